/** Promises 1 to 6: a new object, wall, draw, field, colour, mark. */
public final class DrawingTest {
    private static final int NONE = MosaicShop.NONE, BAD = MosaicShop.BAD, NO = MosaicShop.NO;

    public static void main(String[] args) {
        aNewObject();
        fieldsAtFirst();
        wallSizes();
        wallBeginsAnew();
        drawCounts();
        drawTakesDownOnlyWhatChanges();
        drawRefuses();
        fieldOfAPlace();
        colourRefuses();
        colourLeavesWhatIsPainted();
        markRefuses();
        markLeavesWhatIsLaid();
        markGoldAndHead();
        Due.end("DrawingTest");
    }

    private static void aNewObject() {
        MosaicShop x = new MosaicShop();
        int[] counts = {1, 1, 0, NO, 0, 0, 0, 0, NO};
        long h = 149;
        for (int what = 0; what < counts.length; what++) {
            Due.is("1: count(" + what + ")", x.count(what), counts[what]);
            h = 31 * h + counts[what];
        }
        Due.is("1: field(0, 0)", x.field(0, 0), 0);
        Due.is("1: field(1, 0)", x.field(1, 0), BAD);
        Due.is("1: field(0, 1)", x.field(0, 1), BAD);
        Due.is("1: at(0, 0)", x.at(0, 0), NONE);
        Due.is("1: cube(0, 0)", x.cube(0, 0), NONE);
        Due.is("1: left(0)", x.left(0), BAD);
        Due.is("1: paint()", x.paint(), NO);
        Due.is("1: cut(1, 1)", x.cut(1, 1), NO);
        Due.is("1: days()", x.days(), NO);
        Due.is("1: digest()", x.digest(), 31 * h);
    }

    private static void fieldsAtFirst() {
        MosaicShop x = new MosaicShop();
        x.wall(3, 8);
        for (int field = 0; field < 8; field++) {
            x.draw(0, field, 2, field, field);
        }
        Due.is("terms: LONGEST is 3 at first", x.lay(), 8);
        Due.is("terms: none is GOLD at first", x.count(8), 0);
        x.lot(1, 0, 0, 1000);
        x.lot(0, 0, 0, 1000);
        x.paint();
        for (int field = 0; field < 8; field++) {
            Due.is("terms: COLOUR is 0 at first", x.cube(field, 4), 1);
        }
        x.cut(10, 24);
        Due.is("terms: none is a HEAD at first", x.sheet(0, 3), 0);
    }

    private static void wallSizes() {
        MosaicShop x = new MosaicShop();
        Due.is("2: wall(24, 10)", x.wall(24, 10), 1);
        Due.is("2: field(23, 9)", x.field(23, 9), 0);
        int[][] wrong = {{0, 1}, {25, 1}, {1, 0}, {1, 11}, {-1, 1}, {1, -1},
            {Integer.MAX_VALUE, 1}, {1, Integer.MAX_VALUE}, {Integer.MIN_VALUE, Integer.MIN_VALUE}};
        for (int[] size : wrong) {
            Due.is("2: wall(" + size[0] + ", " + size[1] + ")", x.wall(size[0], size[1]), BAD);
        }
        Due.is("2: w after BAD", x.count(0), 24);
        Due.is("2: h after BAD", x.count(1), 10);
        Due.is("2: wall(1, 1)", x.wall(1, 1), 1);
        Due.is("2: wall(7, 3)", x.wall(7, 3), 1);
        Due.is("2: w", x.count(0), 7);
        Due.is("2: h", x.count(1), 3);
        Due.is("2: field(6, 2)", x.field(6, 2), 0);
        Due.is("2: field(7, 2)", x.field(7, 2), BAD);
        Due.is("2: field(6, 3)", x.field(6, 3), BAD);
    }

    private static void wallBeginsAnew() {
        MosaicShop x = new MosaicShop();
        x.wall(4, 2);
        x.draw(0, 0, 3, 1, 5);
        x.mark(0, 1, true, false);
        x.lot(0, 0, 0, 20);
        x.hand(3, true);
        x.lay();
        x.paint();
        x.cut(1, 2);
        Due.is("2: BAD leaves what is LAID", x.wall(0, 0), BAD);
        Due.is("2: CUBES after BAD", x.count(2), 4);
        Due.is("2: BARE after BAD", x.count(3), 0);
        Due.is("2: SHEETS after BAD", x.count(5), 4);
        Due.is("2: wall of the same size", x.wall(4, 2), 1);
        for (int y = 0; y < 2; y++) {
            for (int p = 0; p < 4; p++) {
                Due.is("2: all PLACES are of FIELD 0", x.field(p, y), 0);
            }
        }
        Due.is("2: not LAID", x.count(2), 0);
        Due.is("2: not PAINTED", x.count(3), NO);
        Due.is("2: not CUT", x.count(5), 0);
        Due.is("2: LOTS as they are", x.left(0), 12);
        Due.is("2: HANDS stay", x.count(6), 1);
        x.wall(4, 1);
        Due.is("2: marks stay", x.lay(), 4);
        Due.is("2: GOLD stays", x.count(8), 4);
        Due.is("2: wall over FIELD 0 alone", x.wall(4, 1), 1);
        Due.is("2: not LAID then", x.at(0, 0), NONE);
    }

    private static void drawCounts() {
        MosaicShop x = new MosaicShop();
        x.wall(24, 10);
        Due.is("3: one PLACE", x.draw(23, 9, 23, 9, 7), 1);
        Due.is("3: the same again", x.draw(23, 9, 23, 9, 7), 0);
        Due.is("3: a part was so", x.draw(22, 8, 23, 9, 7), 3);
        Due.is("3: field(22, 8)", x.field(22, 8), 7);
        Due.is("3: field(21, 8)", x.field(21, 8), 0);
        Due.is("3: field(22, 7)", x.field(22, 7), 0);
        Due.is("3: a row", x.draw(0, 4, 23, 4, 1), 24);
        Due.is("3: field(0, 5)", x.field(0, 5), 0);
        Due.is("3: all", x.draw(0, 0, 23, 9, 7), 236);
        Due.is("3: back", x.draw(0, 0, 23, 9, 0), 240);
    }

    private static void drawTakesDownOnlyWhatChanges() {
        MosaicShop x = new MosaicShop();
        x.wall(6, 2);
        x.lot(0, 0, 0, 100);
        x.lay();
        x.paint();
        x.cut(1, 3);
        Due.is("3: nothing becomes another", x.draw(0, 0, 5, 1, 0), 0);
        Due.is("3: LAID still", x.count(2), 5);
        Due.is("3: PAINTED still", x.count(3), 0);
        Due.is("3: CUT still", x.count(5), 4);
        Due.is("3: one becomes another", x.draw(5, 1, 5, 1, 1), 1);
        Due.is("3: LAID no more", x.count(2), 0);
        Due.is("3: PAINTED no more", x.count(3), NO);
        Due.is("3: CUT no more", x.count(5), 0);
        Due.is("3: LOTS as they are", x.left(0), 88);
        Due.is("3: nothing to scrape", x.scrape(), NO);
        Due.is("3: back again", x.draw(5, 1, 5, 1, 0), 1);
        Due.is("3: does not bring it back", x.count(2), 0);
    }

    private static void drawRefuses() {
        MosaicShop x = new MosaicShop();
        x.wall(6, 3);
        x.lay();
        int[][] wrong = {{-1, 0, 5, 2, 1}, {0, -1, 5, 2, 1}, {0, 0, 6, 2, 1}, {0, 0, 5, 3, 1}, {3, 0, 2, 2, 1},
            {0, 2, 5, 1, 1}, {6, 0, 6, 0, 1}, {0, 3, 0, 3, 1}, {0, 0, 5, 2, -1}, {0, 0, 5, 2, 8},
            {Integer.MIN_VALUE, 0, Integer.MAX_VALUE, 2, 1}, {0, 0, 5, 2, Integer.MAX_VALUE}};
        for (int[] a : wrong) {
            Due.is("3: draw(" + java.util.Arrays.toString(a) + ")", x.draw(a[0], a[1], a[2], a[3], a[4]), BAD);
        }
        Due.is("3: nothing has changed", x.draw(0, 0, 5, 2, 0), 0);
        Due.is("3: LAID still", x.at(0, 0), 0);
    }

    private static void fieldOfAPlace() {
        MosaicShop x = new MosaicShop();
        x.wall(5, 4);
        x.draw(1, 2, 3, 2, 6);
        int[][] told = {{0, 2, 0}, {1, 2, 6}, {3, 2, 6}, {4, 2, 0}, {1, 1, 0}, {1, 3, 0}, {2, 1, 0},
            {-1, 0, BAD}, {0, -1, BAD}, {5, 0, BAD}, {0, 4, BAD}, {23, 0, BAD}, {0, 9, BAD},
            {Integer.MAX_VALUE, Integer.MAX_VALUE, BAD}, {Integer.MIN_VALUE, 0, BAD}};
        for (int[] a : told) {
            Due.is("4: field(" + a[0] + ", " + a[1] + ")", x.field(a[0], a[1]), a[2]);
        }
    }

    private static void colourRefuses() {
        MosaicShop x = new MosaicShop();
        Due.is("5: least", x.colour(0, 0, 0, 0), 1);
        Due.is("5: most", x.colour(7, 255, 255, 255), 1);
        int[][] wrong = {{-1, 0, 0, 0}, {8, 0, 0, 0}, {0, -1, 0, 0}, {0, 256, 0, 0}, {0, 0, -1, 0}, {0, 0, 256, 0},
            {0, 0, 0, -1}, {0, 0, 0, 256}, {Integer.MIN_VALUE, 0, 0, 0}, {0, 0, 0, Integer.MAX_VALUE}};
        x.lot(9, 9, 9, 5);
        x.lot(0, 0, 0, 5);
        for (int[] a : wrong) {
            Due.is("5: colour(" + java.util.Arrays.toString(a) + ")", x.colour(a[0], a[1], a[2], a[3]), BAD);
        }
        x.lay();
        x.paint();
        Due.is("5: BAD leaves the COLOUR", x.cube(0, 4), 1);
    }

    private static void colourLeavesWhatIsPainted() {
        for (int part = 0; part < 3; part++) {
            int[] c = new int[3];
            c[part] = 255;
            MosaicShop x = new MosaicShop();
            x.lot(0, 0, 0, 5);
            x.lot(c[0], c[1], c[2], 5);
            x.lay();
            x.paint();
            Due.is("5: colour", x.colour(0, c[0], c[1], c[2]), 1);
            Due.is("5: what is PAINTED stays", x.cube(0, 4), 0);
            Due.is("5: PAINTED still", x.paint(), NO);
            x.scrape();
            x.paint();
            Due.is("5: PAINTED anew by the COLOUR", x.cube(0, 4), 1);
        }
    }

    private static void markRefuses() {
        MosaicShop x = new MosaicShop();
        x.wall(6, 1);
        x.mark(0, 2, true, false);
        int[][] wrong = {{-1, 1}, {8, 1}, {0, 0}, {0, 4}, {0, -1}, {Integer.MAX_VALUE, 1}, {0, Integer.MIN_VALUE}};
        for (int[] a : wrong) {
            Due.is("6: mark(" + a[0] + ", " + a[1] + ")", x.mark(a[0], a[1], false, true), BAD);
        }
        Due.is("6: BAD leaves LONGEST", x.lay(), 3);
        Due.is("6: BAD leaves GOLD", x.count(8), 6);
        x.cut(1, 24);
        Due.is("6: BAD leaves HEAD", x.sheet(0, 3), 0);
        Due.is("6: mark(7, 1)", x.mark(7, 1, false, false), 1);
    }

    private static void markLeavesWhatIsLaid() {
        MosaicShop x = new MosaicShop();
        x.wall(6, 1);
        x.lot(0, 0, 0, 50);
        int[] cubes = {6, 3, 2};
        for (int longest = 1; longest <= 3; longest++) {
            x.lay();
            x.paint();
            x.cut(1, 3);
            int before = x.count(2);
            Due.is("6: mark", x.mark(0, longest, false, false), 1);
            Due.is("6: LAID stays", x.count(2), before);
            Due.is("6: PAINTED stays", x.count(3), 0);
            Due.is("6: CUT stays", x.count(5), 2);
            Due.is("6: LONGEST " + longest, x.lay(), cubes[longest - 1]);
        }
        x.mark(1, 1, false, false);
        Due.is("6: of that FIELD alone", x.lay(), 2);
    }

    private static void markGoldAndHead() {
        MosaicShop x = new MosaicShop();
        x.wall(6, 1);
        x.draw(0, 0, 3, 0, 4);
        x.lay();
        x.cut(1, 24);
        Due.is("6: GOLD", x.mark(4, 3, true, false), 1);
        Due.is("6: LEAF", x.sheet(0, 2), 4);
        Due.is("6: no HEAD", x.sheet(0, 3), 0);
        Due.is("6: HEAD, GOLD no more", x.mark(4, 3, false, true), 1);
        Due.is("6: no LEAF", x.sheet(0, 2), 0);
        Due.is("6: HEAD", x.sheet(0, 3), 1);
        Due.is("6: neither", x.mark(4, 3, false, false), 1);
        Due.is("6: no LEAF again", x.count(8), 0);
        Due.is("6: no HEAD again", x.sheet(0, 3), 0);
        Due.is("6: the other one", x.mark(0, 3, true, true), 1);
        Due.is("6: its LEAF", x.sheet(0, 2), 2);
    }
}
