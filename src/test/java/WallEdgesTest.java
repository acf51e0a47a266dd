/** The sentences of the document that name an edge of THE WALL (1, promises 1 to 9), each ahead of its own test. */
public final class WallEdgesTest {
    private static final int NONE = MosaicShop.NONE, BAD = MosaicShop.BAD, NO = MosaicShop.NO;

    public static void main(String[] args) {
        wallWide();
        wallHigh();
        fieldNumbers();
        fieldsAtFirst();
        stripEndsWithItsRow();
        stripAsLongAsMayBe();
        cubesUpToTheLongest();
        jointsAreInsideStrips();
        noRowAheadOfTheFirst();
        theRowAheadAlone();
        theOutermostJoints();
        fewestThenWidest();
        stuckAtTheFirstOfItsStrip();
        stuckIsNotLaid();
        cubesByRowsFromTheLeft();
        marksAtFirst();
        aNewObject();
        wallIsAlwaysNotLaid();
        drawOnePlaceOrAll();
        drawGoesNoFurther();
        drawNothing();
        drawAnotherField();
        fieldOutside();
        colourParts();
        longestParts();
        layAnew();
        atOutside();
        cubeNotSoMany();
        cubeWhat();
        theLastCallOfAnObject();
        Due.end("WallEdgesTest");
    }

    // "THE WALL has w by h PLACES (w 1 .. 24"
    private static void wallWide() {
        MosaicShop x = new MosaicShop();
        for (int w = -1; w <= 26; w++) {
            Due.is("wall(" + w + ", 3)", x.wall(w, 3), w >= 1 && w <= 24 ? 1 : BAD);
            Due.is("w then", x.count(0), Math.max(1, Math.min(w, 24)));
        }
        Due.is("wall(MAX, 1)", x.wall(Integer.MAX_VALUE, 1), BAD);
        Due.is("wall(MIN, 1)", x.wall(Integer.MIN_VALUE, 1), BAD);
        Due.is("field(23, 2)", x.field(23, 2), 0);
    }

    // "h 1 .. 10)"
    private static void wallHigh() {
        MosaicShop x = new MosaicShop();
        for (int h = -1; h <= 12; h++) {
            Due.is("wall(3, " + h + ")", x.wall(3, h), h >= 1 && h <= 10 ? 1 : BAD);
            Due.is("h then", x.count(1), Math.max(1, Math.min(h, 10)));
        }
        Due.is("wall(1, MAX)", x.wall(1, Integer.MAX_VALUE), BAD);
        Due.is("wall(1, MIN)", x.wall(1, Integer.MIN_VALUE), BAD);
        Due.is("field(2, 9)", x.field(2, 9), 0);
    }

    // "each of a FIELD 0 .. 7"
    private static void fieldNumbers() {
        MosaicShop x = new MosaicShop();
        for (int field = 7; field >= 0; field--) {
            Due.is("draw of FIELD " + field, x.draw(0, 0, 0, 0, field), 1);
            Due.is("field of it", x.field(0, 0), field);
        }
        int[] wrong = {-1, 8, Integer.MAX_VALUE, Integer.MIN_VALUE};
        for (int field : wrong) {
            Due.is("draw of FIELD " + field, x.draw(0, 0, 0, 0, field), BAD);
            Due.is("colour of FIELD " + field, x.colour(field, 0, 0, 0), BAD);
            Due.is("mark of FIELD " + field, x.mark(field, 1, false, false), BAD);
            Due.is("changes of FIELD " + field, x.changes(field), BAD);
            Due.is("FIELD as it was", x.field(0, 0), 0);
        }
    }

    // "(0 at first)", "all PLACES of FIELD 0"
    private static void fieldsAtFirst() {
        MosaicShop x = new MosaicShop();
        Due.is("FIELD of a new object", x.field(0, 0), 0);
        x.wall(24, 10);
        x.draw(0, 0, 23, 9, 7);
        x.wall(24, 10);
        Due.is("no PLACE is of another one", x.draw(0, 0, 23, 9, 0), 0);
    }

    // "STRIPS of a row: its PLACES of one FIELD side by side"
    private static void stripEndsWithItsRow() {
        Due.is("rows of 2", Shops.cubes(Shops.laid(2, 2, 3), 2), "2 2");
        Due.is("rows of 1", Shops.cubes(Shops.laid(1, 10, 3), 2), "1 1 1 1 1 1 1 1 1 1");
        Due.is("a row of 24", Shops.cubes(Shops.laid(24, 1, 3), 2), "3 3 3 3 3 3 3 3");
        MosaicShop x = Shops.wall(5, 1, 3);
        x.draw(2, 0, 2, 0, 1);
        x.lay();
        Due.is("one PLACE of another FIELD between", Shops.cubes(x, 2), "2 1 2");
        x = Shops.wall(3, 1, 3);
        x.draw(0, 0, 0, 0, 1);
        x.draw(2, 0, 2, 0, 2);
        x.lay();
        Due.is("STRIPS of 1", Shops.cubes(x, 3), "1 0 2");
    }

    // "as long as may be"
    private static void stripAsLongAsMayBe() {
        MosaicShop x = Shops.wall(4, 1, 3);
        x.draw(0, 0, 1, 0, 1);
        x.draw(2, 0, 3, 0, 1);
        x.lay();
        Due.is("drawn in two parts", Shops.cubes(x, 2), "3 1");
    }

    // "covered by CUBES of 1 to as many PLACES as its FIELD's LONGEST one"
    private static void cubesUpToTheLongest() {
        for (int longest = 1; longest <= 3; longest++) {
            for (int w = 1; w <= 24; w++) {
                StringBuilder due = new StringBuilder();
                for (int left = w; left > 0; left -= longest) {
                    due.append(due.length() == 0 ? "" : " ").append(Math.min(left, longest));
                }
                Due.is("a row of " + w + " by " + longest, Shops.cubes(Shops.laid(w, 1, longest), 2), due.toString());
            }
        }
    }

    // "A JOINT of a row is a border x .. of two CUBES of one STRIP"
    private static void jointsAreInsideStrips() {
        Due.is("a JOINT ahead", Shops.cubes(Shops.laid(4, 2, 2), 2), "2 2 1 2 1");
        MosaicShop x = Shops.wall(4, 2, 2);
        x.draw(2, 0, 3, 0, 1);
        x.lay();
        Due.is("a border of STRIPS ahead", Shops.cubes(x, 2), "2 2 2 2");
        x = Shops.wall(4, 2, 2);
        x.draw(2, 1, 3, 1, 1);
        x.lay();
        Due.is("a border of STRIPS under a JOINT", Shops.cubes(x, 2), "2 2 2 2");
        x = Shops.wall(2, 2, 1);
        x.draw(0, 1, 1, 1, 1);
        x.lay();
        Due.is("a JOINT of another FIELD ahead", Shops.cubes(x, 2), "1 1 2");
    }

    // "Rows are LAID from 0 on": row 0 has none ahead, whatever was LAID before
    private static void noRowAheadOfTheFirst() {
        MosaicShop x = Shops.laid(6, 1, 3);
        Due.is("LAID once more", x.lay(), 2);
        Due.is("the same row", Shops.cubes(x, 2), "3 3");
        x = Shops.laid(4, 1, 1);
        Due.is("LAID once more, JOINTS all over", x.lay(), 4);
        x = Shops.wall(3, 2, 1);
        Due.is("STUCK in row 1", x.lay(), -1024);
        Due.is("STUCK there again", x.lay(), -1024);
        x.wall(3, 1);
        Due.is("LAID behind a STUCK one", x.lay(), 3);
        for (int w = 1; w <= 3; w++) {
            x = Shops.wall(3, 2, 1);
            x.lay();
            x.wall(w, 2);
            x.draw(0, 1, w - 1, 1, 1);
            Due.is("a WALL of " + w + " behind a STUCK one", x.lay(), w + 1);
        }
    }

    // "no JOINT at a border at which the row ahead (y - 1) has one"
    private static void theRowAheadAlone() {
        Due.is("three rows", Shops.cubes(Shops.laid(6, 3, 3), 2), "3 3 2 3 1 3 3");
        MosaicShop x = Shops.wall(3, 3, 1);
        x.draw(0, 1, 2, 1, 1);
        x.lay();
        Due.is("two rows ahead", Shops.cubes(x, 2), "1 1 1 3 1 1 1");
    }

    // the same at the outermost borders that can be JOINTS, 1 and w - 1
    private static void theOutermostJoints() {
        Due.is("JOINTS at 2, 1, 2", Shops.cubes(Shops.laid(3, 3, 2), 2), "2 1 1 2 2 1");
        MosaicShop x = Shops.wall(24, 2, 3);
        x.mark(1, 1, false, false);
        x.draw(22, 0, 23, 0, 1);
        x.lay();
        Due.is("no JOINT at 23", Shops.cubes(x, 2), "3 3 3 3 3 3 3 1 1 1 2 3 3 3 3 3 3 2 2");
        x = Shops.wall(4, 2, 3);
        x.mark(1, 1, false, false);
        x.draw(0, 0, 1, 0, 1);
        x.draw(0, 1, 3, 1, 2);
        x.mark(2, 1, false, false);
        Due.is("STUCK for the JOINT at 1 alone", x.lay(), -1024);
    }

    // "as few CUBES as may be; of like ones that of which the first is widest, then the second, and so on"
    private static void fewestThenWidest() {
        Due.is("3 1, not 2 2", Shops.cubes(Shops.laid(4, 1, 3), 2), "3 1");
        Due.is("3 3 1, not 3 2 2", Shops.cubes(Shops.laid(7, 1, 3), 2), "3 3 1");
        Due.is("the first can't be 3", Shops.cubes(Shops.laid(8, 3, 3), 2), "3 3 2 2 3 3 3 3 2");
        Due.is("2 3 3 2, not 2 3 2 3", Shops.cubes(Shops.laid(10, 2, 3), 2), "3 3 3 1 2 3 3 2");
    }

    // "If a STRIP can't be so, THE WALL is STUCK there", "-1000 less 24 y and x (the STRIP's first PLACE)"
    private static void stuckAtTheFirstOfItsStrip() {
        Due.is("STUCK at 0, 1", Shops.wall(2, 2, 1).lay(), -1024);
        MosaicShop x = Shops.wall(9, 2, 3);
        x.mark(1, 1, false, false);
        x.draw(6, 0, 8, 1, 1);
        Due.is("STUCK at 6, 1", x.lay(), -1030);
        x.draw(0, 0, 2, 1, 1);
        Due.is("the first of two", x.lay(), -1024);
        x = Shops.wall(24, 10, 3);
        x.mark(1, 1, false, false);
        x.draw(22, 0, 23, 7, 2);
        x.draw(22, 8, 23, 9, 1);
        Due.is("STUCK at 22, 9", x.lay(), -1238);
        Due.is("STRIPS of 1 are never STUCK", Shops.wall(1, 10, 1).lay(), 10);
    }

    // "STUCK there, and not LAID"
    private static void stuckIsNotLaid() {
        MosaicShop x = Shops.laid(4, 2, 3);
        Shops.lots(x, 20);
        x.paint();
        x.cut(1, 2);
        x.mark(0, 1, false, false);
        Due.is("STUCK", x.lay(), -1024);
        Due.is("CUBES", x.count(2), 0);
        Due.is("BARE ones", x.count(3), NO);
        Due.is("SHEETS", x.count(5), 0);
        Due.is("LEAF in all", x.count(8), NO);
        Due.is("at(0, 0), of a row that was LAID", x.at(0, 0), NONE);
        Due.is("cube(0, 0)", x.cube(0, 0), NONE);
        Due.is("scrape()", x.scrape(), NO);
        Due.is("LOTS as they are", Shops.left(x), "12");
    }

    // "CUBES are numbered by rows, from the left"
    private static void cubesByRowsFromTheLeft() {
        MosaicShop x = Shops.laid(4, 2, 3);
        Due.is("rows", Shops.cubes(x, 0), "0 0 1 1");
        Due.is("left borders", Shops.cubes(x, 1), "0 3 0 2");
        Due.is("PLACES", Shops.cubes(x, 2), "3 1 2 2");
        Due.is("the last of a row", x.at(3, 0), 1);
        Due.is("the first of the next", x.at(0, 1), 2);
    }

    // "a LONGEST CUBE (.. 3 at first), a COLOUR (.. 0 at first), may be GOLD, may be a HEAD"
    private static void marksAtFirst() {
        for (int field = 0; field < 8; field++) {
            MosaicShop x = new MosaicShop();
            x.wall(4, 1);
            x.draw(0, 0, 3, 0, field);
            x.lay();
            Due.is("LONGEST of FIELD " + field, Shops.cubes(x, 2), "3 1");
            x.lot(1, 0, 0, 9);
            x.lot(0, 1, 0, 9);
            x.lot(0, 0, 1, 9);
            x.lot(0, 0, 0, 9);
            x.paint();
            Due.is("COLOUR of FIELD " + field, Shops.cubes(x, 4), "3 3");
            x.cut(1, 24);
            Due.is("FIELD " + field + " GOLD", x.count(8), 0);
            Due.is("FIELD " + field + " a HEAD", x.sheet(0, 3), 0);
        }
    }

    // "A WALL of 1 by 1; no LOTS, no HANDS; not LAID."
    private static void aNewObject() {
        MosaicShop x = new MosaicShop();
        int[] due = {1, 1, 0, NO, 0, 0, 0, 0, NO};
        for (int what = 0; what < due.length; what++) {
            Due.is("count(" + what + ") of a new object", x.count(what), due[what]);
        }
        Due.is("at(0, 0) of a new object", x.at(0, 0), NONE);
        Due.is("lay() of a new object", x.lay(), 1);
        Due.is("at(0, 0) then", x.at(0, 0), 0);
    }

    // "THE WALL is w by h, all PLACES of FIELD 0, not LAID: 1."
    private static void wallIsAlwaysNotLaid() {
        MosaicShop x = Shops.laid(3, 2, 3);
        Shops.lots(x, 10);
        x.paint();
        x.cut(1, 1);
        Due.is("wall as it was", x.wall(3, 2), 1);
        Due.is("CUBES", x.count(2), 0);
        Due.is("BARE ones", x.count(3), NO);
        Due.is("SHEETS", x.count(5), 0);
        Due.is("LOTS as they are", Shops.left(x), "4");
    }

    // "PLACES x0 .. x1, y0 .. y1 become of a FIELD"
    private static void drawOnePlaceOrAll() {
        MosaicShop x = Shops.wall(24, 10, 3);
        int[][] corners = {{0, 0}, {23, 0}, {0, 9}, {23, 9}};
        for (int[] c : corners) {
            Due.is("one PLACE", x.draw(c[0], c[1], c[0], c[1], 5), 1);
            Due.is("its FIELD", x.field(c[0], c[1]), 5);
        }
        Due.is("all PLACES", x.draw(0, 0, 23, 9, 6), 240);
        Due.is("x0 above x1", x.draw(5, 3, 4, 3, 1), BAD);
        Due.is("y0 above y1", x.draw(5, 3, 5, 2, 1), BAD);
        int[][] outside = {{-1, 0, 0, 0}, {0, -1, 0, 0}, {23, 0, 24, 0}, {0, 9, 0, 10}, {24, 0, 24, 0}, {0, 10, 0, 10},
            {Integer.MIN_VALUE, 0, 0, 0}, {0, 0, Integer.MAX_VALUE, 0}, {0, 0, 0, Integer.MAX_VALUE}};
        for (int[] o : outside) {
            Due.is("draw outside", x.draw(o[0], o[1], o[2], o[3], 1), BAD);
        }
        Due.is("no PLACE has changed", x.draw(0, 0, 23, 9, 6), 0);
    }

    private static void drawGoesNoFurther() {
        MosaicShop x = Shops.wall(5, 5, 3);
        x.draw(1, 1, 3, 3, 2);
        for (int place = 0; place < 25; place++) {
            int column = place % 5;
            int row = place / 5;
            boolean in = column >= 1 && column <= 3 && row >= 1 && row <= 3;
            Due.is("field(" + column + ", " + row + ")", x.field(column, row), in ? 2 : 0);
        }
    }

    // "how many were of another one"; "What is LAID goes .. when a FIELD of a PLACE becomes another one"
    private static void drawNothing() {
        MosaicShop x = Shops.laid(3, 2, 3);
        Shops.lots(x, 10);
        x.paint();
        x.cut(1, 1);
        long before = x.digest();
        Due.is("none becomes another one", x.draw(0, 0, 2, 1, 0), 0);
        Due.is("what is LAID, PAINTED and CUT stays", x.digest(), before);
    }

    // "(and what is PAINTED, CUT, with LOTS as they are)"
    private static void drawAnotherField() {
        MosaicShop x = Shops.wall(3, 2, 3);
        Shops.lots(x, 10);
        x.draw(0, 0, 1, 1, 4);
        x.lay();
        x.paint();
        x.cut(1, 1);
        Due.is("one of six", x.draw(0, 0, 2, 0, 4), 1);
        Due.is("CUBES", x.count(2), 0);
        Due.is("BARE ones", x.count(3), NO);
        Due.is("SHEETS", x.count(5), 0);
        Due.is("LOTS as they are", Shops.left(x), "4");
        x.lay();
        Due.is("PAINTED no more when LAID again", x.count(3), NO);
        Due.is("CUT no more when LAID again", x.count(5), 0);
    }

    // "The FIELD of a PLACE. BAD."
    private static void fieldOutside() {
        MosaicShop x = Shops.wall(5, 4, 3);
        x.draw(4, 3, 4, 3, 3);
        Due.is("field(4, 3)", x.field(4, 3), 3);
        int[][] outside = {{-1, 0}, {5, 0}, {0, -1}, {0, 4}, {5, 3}, {4, 4}, {-1, 1}, {24, 0}, {0, 10},
            {Integer.MAX_VALUE, 0}, {Integer.MIN_VALUE, 0}, {0, Integer.MAX_VALUE}, {0, Integer.MIN_VALUE}};
        for (int[] o : outside) {
            Due.is("field(" + o[0] + ", " + o[1] + ")", x.field(o[0], o[1]), BAD);
        }
    }

    // "a COLOUR (three numbers 0 .. 255", "The COLOUR of a FIELD: 1. (What is PAINTED stays.) BAD."
    private static void colourParts() {
        MosaicShop x = Shops.laid(3, 1, 3);
        x.lot(0, 0, 0, 9);
        x.lot(255, 255, 255, 9);
        int[] parts = {-1, 0, 255, 256, Integer.MAX_VALUE, Integer.MIN_VALUE};
        for (int part : parts) {
            int due = part == 0 || part == 255 ? 1 : BAD;
            Due.is("red " + part, x.colour(7, part, 0, 0), due);
            Due.is("green " + part, x.colour(7, 0, part, 0), due);
            Due.is("blue " + part, x.colour(7, 0, 0, part), due);
        }
        x.paint();
        Due.is("colour", x.colour(0, 255, 255, 255), 1);
        Due.is("what is PAINTED stays", x.cube(0, 4), 0);
        Due.is("BAD", x.colour(0, 0, 0, 256), BAD);
        x.scrape();
        x.paint();
        Due.is("the COLOUR that was told last, and not BAD", x.cube(0, 4), 1);
    }

    // "a LONGEST CUBE (1, 2 or 3", "The LONGEST CUBE of a FIELD (what is LAID stays)"
    private static void longestParts() {
        MosaicShop x = Shops.laid(6, 1, 3);
        Shops.lots(x, 9);
        x.paint();
        x.cut(1, 3);
        for (int longest = 3; longest >= 1; longest--) {
            Due.is("mark(0, " + longest + ")", x.mark(0, longest, false, false), 1);
        }
        int[] wrong = {0, 4, -1, Integer.MAX_VALUE, Integer.MIN_VALUE};
        for (int longest : wrong) {
            Due.is("mark(0, " + longest + ")", x.mark(0, longest, true, true), BAD);
        }
        Due.is("what is LAID stays", Shops.cubes(x, 2), "3 3");
        Due.is("what is PAINTED stays", Shops.cubes(x, 4), "0 0");
        Due.is("what is CUT stays", Shops.cubes(x, 5), "0 1");
        Due.is("no GOLD by a BAD mark", x.count(8), 0);
        Due.is("no HEAD by a BAD mark", x.sheet(0, 3), 0);
        Due.is("the LONGEST that was told last, and not BAD", x.lay(), 6);
    }

    // "It is LAID anew (not PAINTED, not CUT then)"
    private static void layAnew() {
        MosaicShop x = Shops.laid(4, 2, 3);
        Shops.lots(x, 20);
        x.paint();
        x.cut(1, 1);
        Due.is("LAID anew", x.lay(), 4);
        Due.is("not PAINTED then", x.count(3), NO);
        Due.is("no LOTS", Shops.cubes(x, 4), "-1 -1 -1 -1");
        Due.is("not CUT then", x.count(5), 0);
        Due.is("no SHEETS", Shops.cubes(x, 5), "-1 -1 -1 -1");
        Due.is("nothing TURNED OVER", Shops.cubes(x, 6), "-1 -1 -1 -1");
        Due.is("LOTS as they are", Shops.left(x), "12");
    }

    // "The CUBE at a PLACE. NONE: not LAID. BAD."
    private static void atOutside() {
        MosaicShop x = Shops.wall(5, 2, 3);
        int[][] outside = {{-1, 0}, {5, 0}, {0, -1}, {0, 2}, {5, 1}, {-1, 1}, {24, 0}, {0, 10},
            {Integer.MAX_VALUE, 0}, {Integer.MIN_VALUE, 0}, {0, Integer.MAX_VALUE}, {0, Integer.MIN_VALUE}};
        for (int round = 0; round < 2; round++) {
            for (int[] o : outside) {
                Due.is("at(" + o[0] + ", " + o[1] + ")", x.at(o[0], o[1]), BAD);
            }
            Due.is("at(4, 1)", x.at(4, 1), round == 0 ? NONE : 3);
            Due.is("at(0, 0)", x.at(0, 0), round == 0 ? NONE : 0);
            x.lay();
        }
    }

    // "NONE: not so many."
    private static void cubeNotSoMany() {
        MosaicShop x = Shops.wall(4, 1, 3);
        for (int what = 0; what <= 6; what++) {
            Due.is("cube(0, " + what + "), not LAID", x.cube(0, what), NONE);
        }
        x.lay();
        Due.is("cube(1, 2)", x.cube(1, 2), 1);
        int[] others = {2, 3, 240, -1, Integer.MAX_VALUE, Integer.MIN_VALUE};
        for (int i : others) {
            Due.is("cube(" + i + ", 2)", x.cube(i, 2), NONE);
        }
        x = Shops.laid(24, 10, 3);
        x.wall(24, 1);
        x.lay();
        Due.is("cube(7, 0)", x.cube(7, 0), 0);
        Due.is("cube(8, 0), though there was one", x.cube(8, 0), NONE);
        Due.is("at(23, 0)", x.at(23, 0), 7);
    }

    // "BAD: what."
    private static void cubeWhat() {
        MosaicShop x = Shops.wall(4, 1, 3);
        int[] wrong = {-1, 7, Integer.MAX_VALUE, Integer.MIN_VALUE};
        for (int round = 0; round < 2; round++) {
            for (int what : wrong) {
                Due.is("cube(0, " + what + ")", x.cube(0, what), BAD);
                Due.is("cube(9, " + what + ")", x.cube(9, what), BAD);
                Due.is("cube(-1, " + what + ")", x.cube(-1, what), BAD);
            }
            x.lay();
        }
        Due.is("cube(0, 6)", x.cube(0, 6), NONE);
        Due.is("cube(0, 0)", x.cube(0, 0), 0);
    }

    // "An object is used for at most 512 calls after it has been made"
    private static void theLastCallOfAnObject() {
        MosaicShop x = Shops.laid(24, 10, 3);
        Shops.lots(x, 1000);
        for (int call = 5; call < 512; call++) {
            boolean paint = call % 2 == 1;
            Due.is("call " + call, paint ? x.paint() : x.scrape(), paint ? 0 : 240);
        }
        Due.is("call 512", x.left(0), 760);
    }
}
