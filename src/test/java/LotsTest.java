/** Promises 10 to 15: lot, left, more, paint, scrape, changes. */
public final class LotsTest {
    private static final int NONE = MosaicShop.NONE, BAD = MosaicShop.BAD, NO = MosaicShop.NO, FULL = MosaicShop.FULL;

    public static void main(String[] args) {
        lotsAsTheyCome();
        lotRefuses();
        leftRefuses();
        moreForALot();
        nearestBySquares();
        nearestOfLikeOnesIsTheLeast();
        aFieldFromOneLot();
        aFieldCubeByCube();
        fieldsInOrder();
        paintRefuses();
        paintKeepsTheCut();
        whatWasGivenStaysGiven();
        scrapeGivesBack();
        scrapeFillsToAThousand();
        changesAlongAField();
        changesRefuses();
        aSmallerWallBehindAGreaterOne();
        Due.end("LotsTest");
    }

    private static MosaicShop wall(int w, int h, int longest) {
        MosaicShop x = new MosaicShop();
        x.wall(w, h);
        x.mark(0, longest, false, false);
        return x;
    }

    /** The LOT of each CUBE, in order. */
    private static void lotsOfCubes(String call, MosaicShop x, int... due) {
        Due.is(call + ": CUBES", x.count(2), due.length);
        for (int i = 0; i < due.length; i++) {
            Due.is(call + ": LOT of CUBE " + i, x.cube(i, 4), due[i]);
        }
    }

    private static void lotsAsTheyCome() {
        MosaicShop x = new MosaicShop();
        int[] left = {0, 1000, 1, 999, 7, 7, 7, 7, 7, 7};
        for (int lot = 0; lot < 10; lot++) {
            Due.is("10: LOTS ahead", x.count(4), lot);
            Due.is("10: lot " + lot, x.lot(255, 0, 255, left[lot]), lot);
        }
        Due.is("10: an eleventh", x.lot(0, 0, 0, 0), FULL);
        Due.is("10: BAD ahead of FULL", x.lot(256, 0, 0, 0), BAD);
        Due.is("10: LOTS", x.count(4), 10);
        for (int lot = 0; lot < 10; lot++) {
            Due.is("11: left(" + lot + ")", x.left(lot), left[lot]);
        }
        Due.is("11: left(10)", x.left(10), BAD);
    }

    private static void lotRefuses() {
        MosaicShop x = new MosaicShop();
        int[][] wrong = {{-1, 0, 0, 0}, {256, 0, 0, 0}, {0, -1, 0, 0}, {0, 256, 0, 0}, {0, 0, -1, 0}, {0, 0, 256, 0},
            {0, 0, 0, -1}, {0, 0, 0, 1001}, {0, 0, 0, Integer.MAX_VALUE}, {Integer.MIN_VALUE, 0, 0, 0}};
        for (int[] a : wrong) {
            Due.is("10: lot(" + java.util.Arrays.toString(a) + ")", x.lot(a[0], a[1], a[2], a[3]), BAD);
        }
        Due.is("10: no LOT came", x.count(4), 0);
    }

    private static void leftRefuses() {
        MosaicShop x = new MosaicShop();
        Due.is("11: no LOT yet", x.left(0), BAD);
        x.lot(0, 0, 0, 5);
        Due.is("11: left(0)", x.left(0), 5);
        int[] wrong = {1, 9, 10, -1, Integer.MAX_VALUE, Integer.MIN_VALUE};
        for (int lot : wrong) {
            Due.is("11: left(" + lot + ")", x.left(lot), BAD);
        }
    }

    private static void moreForALot() {
        MosaicShop x = new MosaicShop();
        Due.is("12: no LOT yet", x.more(0, 0), BAD);
        x.lot(0, 0, 0, 0);
        x.lot(0, 0, 0, 10);
        Due.is("12: more(1, 0)", x.more(1, 0), 10);
        Due.is("12: more(1, 5)", x.more(1, 5), 15);
        Due.is("12: above 1000", x.more(1, 986), NO);
        Due.is("12: as it was", x.left(1), 15);
        Due.is("12: up to 1000", x.more(1, 985), 1000);
        Due.is("12: full, none more", x.more(1, 0), 1000);
        Due.is("12: full, one more", x.more(1, 1), NO);
        Due.is("12: the other one", x.left(0), 0);
        Due.is("12: more(0, 1000)", x.more(0, 1000), 1000);
        int[][] wrong = {{1, -1}, {1, 1001}, {2, 0}, {-1, 0}, {10, 0}, {1, Integer.MAX_VALUE}, {Integer.MAX_VALUE, 1}};
        for (int[] a : wrong) {
            Due.is("12: more(" + a[0] + ", " + a[1] + ")", x.more(a[0], a[1]), BAD);
        }
        Due.is("12: as it was after BAD", x.left(1), 1000);
    }

    private static void nearestBySquares() {
        MosaicShop x = wall(3, 1, 3);
        x.colour(0, 10, 10, 10);
        x.lot(15, 10, 10, 100);
        x.lot(13, 7, 10, 100);
        x.lot(10, 10, 4, 100);
        x.lay();
        Due.is("13: paint", x.paint(), 0);
        lotsOfCubes("13: 9 + 9 is nearer than 25", x, 1);
        for (int part = 0; part < 3; part++) {
            int[] far = new int[3];
            far[part] = 255;
            x = wall(3, 1, 3);
            x.lot(far[0], far[1], far[2], 100);
            x.lot(147, 147, 146, 100);
            x.lay();
            x.paint();
            lotsOfCubes("13: 65025 is farther than 64534", x, 1);
        }
    }

    private static void nearestOfLikeOnesIsTheLeast() {
        MosaicShop x = wall(3, 1, 3);
        x.colour(0, 100, 100, 100);
        x.lot(100, 100, 103, 2);
        x.lot(100, 103, 100, 100);
        x.lot(97, 100, 100, 100);
        x.lot(100, 100, 97, 100);
        x.lay();
        x.paint();
        lotsOfCubes("13: least of those that have as many", x, 1);
    }

    private static void aFieldFromOneLot() {
        MosaicShop x = wall(7, 1, 3);
        x.lot(0, 0, 0, 6);
        x.lot(0, 0, 1, 7);
        x.lot(0, 0, 2, 8);
        x.lay();
        Due.is("13: paint", x.paint(), 0);
        lotsOfCubes("13: all from one that has just as many", x, 1, 1, 1);
        Due.is("13: left(0)", x.left(0), 6);
        Due.is("13: left(1)", x.left(1), 0);
        Due.is("13: left(2)", x.left(2), 8);
    }

    private static void aFieldCubeByCube() {
        MosaicShop x = wall(7, 1, 3);
        x.lot(0, 0, 0, 4);
        x.lot(0, 0, 1, 3);
        x.lay();
        Due.is("13: none is BARE", x.paint(), 0);
        lotsOfCubes("13: CUBE by CUBE", x, 0, 1, 0);
        Due.is("13: left(0)", x.left(0), 0);
        Due.is("13: left(1)", x.left(1), 0);
        x = wall(7, 1, 3);
        x.lot(0, 0, 0, 3);
        x.lot(9, 0, 0, 2);
        x.lay();
        Due.is("13: one is BARE", x.paint(), 1);
        lotsOfCubes("13: BARE where none has as many", x, 0, NONE, 1);
        Due.is("13: left(1)", x.left(1), 1);
        Due.is("13: count(3)", x.count(3), 1);
        x = wall(7, 1, 3);
        x.lay();
        Due.is("13: all are BARE", x.paint(), 3);
        Due.is("13: PAINTED though", x.paint(), NO);
    }

    private static void fieldsInOrder() {
        MosaicShop x = wall(6, 2, 3);
        x.draw(0, 0, 2, 0, 5);
        x.draw(3, 1, 5, 1, 3);
        x.lot(0, 0, 0, 6);
        x.lot(0, 0, 1, 4);
        x.lay();
        Due.is("13: paint", x.paint(), 1);
        lotsOfCubes("13: FIELD 0, then 3, then 5", x, NONE, 0, 0, 1);
        Due.is("13: left(0)", x.left(0), 0);
        Due.is("13: left(1)", x.left(1), 1);
        x = wall(3, 2, 3);
        x.draw(0, 1, 2, 1, 7);
        x.colour(7, 200, 0, 0);
        x.lot(199, 0, 0, 50);
        x.lot(1, 0, 0, 50);
        x.lay();
        x.paint();
        lotsOfCubes("13: each FIELD by its COLOUR", x, 1, 0);
    }

    private static void paintRefuses() {
        MosaicShop x = wall(3, 1, 3);
        x.lot(0, 0, 0, 9);
        Due.is("13: not LAID", x.paint(), NO);
        x.lay();
        Due.is("13: paint", x.paint(), 0);
        Due.is("13: it is PAINTED", x.paint(), NO);
        Due.is("13: nothing given twice", x.left(0), 6);
    }

    private static void paintKeepsTheCut() {
        MosaicShop x = wall(6, 1, 3);
        x.lot(0, 0, 0, 9);
        x.lay();
        x.cut(1, 3);
        x.paint();
        Due.is("13: CUT stays", x.count(5), 2);
        Due.is("13: SHEET stays", x.cube(1, 5), 1);
        x.scrape();
        Due.is("14: CUT stays", x.count(5), 2);
        Due.is("14: SHEET stays", x.cube(1, 5), 1);
        Due.is("14: TURNED OVER stays", x.cube(1, 6), 0);
    }

    private static void whatWasGivenStaysGiven() {
        MosaicShop x = wall(3, 1, 3);
        x.lot(0, 0, 0, 7);
        for (int round = 0; round < 2; round++) {
            x.lay();
            Due.is("13: paint", x.paint(), 0);
            Due.is("13: left(0)", x.left(0), 4 - 3 * round);
        }
        Due.is("14: the last alone", x.scrape(), 3);
        Due.is("14: left(0)", x.left(0), 4);
    }

    private static void scrapeGivesBack() {
        MosaicShop x = wall(7, 1, 3);
        x.lot(0, 0, 0, 3);
        x.lot(9, 0, 0, 2);
        Due.is("14: not LAID", x.scrape(), NO);
        x.lay();
        Due.is("14: not PAINTED", x.scrape(), NO);
        x.paint();
        Due.is("14: all but BARE ones", x.scrape(), 4);
        Due.is("14: left(0)", x.left(0), 3);
        Due.is("14: left(1)", x.left(1), 2);
        Due.is("14: PAINTED no more", x.count(3), NO);
        lotsOfCubes("14: no LOT", x, NONE, NONE, NONE);
        Due.is("14: LAID still", x.count(2), 3);
        Due.is("14: nothing more", x.scrape(), NO);
        Due.is("14: PAINTED again", x.paint(), 1);
        x = wall(3, 1, 3);
        x.lay();
        x.paint();
        Due.is("14: BARE ones alone", x.scrape(), 0);
    }

    private static void scrapeFillsToAThousand() {
        MosaicShop x = wall(7, 1, 3);
        x.lot(0, 0, 0, 1000);
        x.lay();
        x.paint();
        x.more(0, 5);
        Due.is("14: 7 PLACES", x.scrape(), 7);
        Due.is("14: 1000 at most", x.left(0), 1000);
        x.paint();
        Due.is("14: given again", x.left(0), 993);
        Due.is("14: all back", x.scrape(), 7);
        Due.is("14: 1000 again", x.left(0), 1000);
    }

    private static void changesAlongAField() {
        MosaicShop x = wall(6, 1, 1);
        x.lot(0, 0, 0, 2);
        x.lot(1, 0, 0, 1);
        x.lay();
        Due.is("15: three are BARE", x.paint(), 3);
        lotsOfCubes("15: two, one, none", x, 0, 0, 1, NONE, NONE, NONE);
        Due.is("15: to another, and to BARE", x.changes(0), 2);
        x = wall(9, 1, 3);
        x.draw(3, 0, 5, 0, 2);
        x.mark(2, 1, false, false);
        x.lot(0, 0, 0, 7);
        x.lay();
        Due.is("15: two of FIELD 2 are BARE", x.paint(), 2);
        Due.is("15: its CUBE ahead is of the same FIELD", x.changes(0), 0);
        Due.is("15: the first is no change, nor BARE behind BARE", x.changes(2), 1);
        Due.is("15: a FIELD without PLACES", x.changes(7), 0);
        x = wall(6, 1, 3);
        x.draw(4, 0, 5, 0, 1);
        x.lot(0, 0, 0, 1);
        x.lay();
        x.paint();
        lotsOfCubes("15: BARE, then a LOT", x, NONE, 0, NONE);
        Due.is("15: from BARE", x.changes(0), 1);
        Due.is("15: BARE alone", x.changes(1), 0);
    }

    /** What was LAID, PAINTED and CUT of the greater WALL is of no account any more. */
    private static void aSmallerWallBehindAGreaterOne() {
        for (int stock = 0; stock <= 1000; stock += 500) {
            MosaicShop x = wall(24, 10, 3);
            x.lot(0, 0, 0, stock);
            x.lay();
            x.paint();
            x.cut(10, 24);
            x.lot(0, 0, 0, 1000);
            x.wall(3, 1);
            x.lay();
            Due.is("2: one CUBE", x.count(2), 1);
            Due.is("13: paint", x.paint(), 0);
            Due.is("13: 3 PLACES given", x.left(0) + x.left(1), stock + 1000 - (stock < 240 ? 3 : 243));
            Due.is("15: changes", x.changes(0), 0);
            x.cut(10, 24);
            Due.is("9: TURNED OVER", x.cube(0, 6), 0);
            Due.is("17: CUBES", x.sheet(0, 0), 1);
            Due.is("17: WEIGHT", x.sheet(0, 1), 3);
            Due.is("17: right border", x.sheet(0, 5), 3);
            x.mark(0, 3, true, false);
            Due.is("17: LEAF", x.sheet(0, 2), 3);
            Due.is("18: broken", x.broken(0), 0);
            Due.is("14: scrape", x.scrape(), 3);
            Due.is("24: count(7)", x.count(7), stock + 1000 - (stock < 240 ? 3 : 243));
        }
    }

    private static void changesRefuses() {
        MosaicShop x = wall(3, 1, 3);
        Due.is("15: not LAID", x.changes(0), NO);
        x.lay();
        Due.is("15: not PAINTED", x.changes(0), NO);
        Due.is("15: BAD ahead of NO", x.changes(8), BAD);
        x.paint();
        Due.is("15: changes(7)", x.changes(7), 0);
        int[] wrong = {-1, 8, Integer.MAX_VALUE, Integer.MIN_VALUE};
        for (int field : wrong) {
            Due.is("15: changes(" + field + ")", x.changes(field), BAD);
        }
    }
}
