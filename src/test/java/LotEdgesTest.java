/** The sentences of the document that name an edge of LOTS (2, promises 10 to 15), each ahead of its own test. */
public final class LotEdgesTest {
    private static final int BAD = MosaicShop.BAD, NO = MosaicShop.NO, FULL = MosaicShop.FULL;

    public static void main(String[] args) {
        lotsZeroToNine();
        leftZeroToAThousand();
        lotColours();
        leastSumOfSquares();
        theFarthestIsNearestToo();
        ofLikeOnesTheLeastNumber();
        asManyLeftAsTheField();
        theFieldInAllItsStrips();
        asManyLeftAsTheCube();
        bare();
        fieldsInOrder();
        fieldsWithoutPlaces();
        changesOfOneCube();
        changesOfBareOnes();
        changesFromTheCubeAhead();
        leftOfALot();
        moreUpToAThousand();
        moreNumbers();
        paintRefused();
        givenAhead();
        scrapeToAThousand();
        scrapeOfBareOnes();
        scrapeRefused();
        changesRefused();
        Due.end("LotEdgesTest");
    }

    // "LOTS 0 .. 9, as they come", "FULL: 10."
    private static void lotsZeroToNine() {
        MosaicShop x = new MosaicShop();
        for (int lot = 0; lot < 10; lot++) {
            Due.is("lot " + lot, x.lot(lot, lot, lot, 100 * lot), lot);
        }
        Due.is("an eleventh", x.lot(0, 0, 0, 0), FULL);
        Due.is("once more", x.lot(0, 0, 0, 1000), FULL);
        Due.is("BAD ahead of FULL", x.lot(0, 0, 0, 1001), BAD);
        Due.is("LOTS", x.count(4), 10);
        Due.is("what they have left", Shops.left(x), "0 100 200 300 400 500 600 700 800 900");
    }

    // "so many PLACES left (0 .. 1000)"
    private static void leftZeroToAThousand() {
        MosaicShop x = new MosaicShop();
        int[] wrong = {-1, 1001, Integer.MAX_VALUE, Integer.MIN_VALUE};
        for (int left : wrong) {
            Due.is("a LOT of " + left, x.lot(0, 0, 0, left), BAD);
        }
        Due.is("LOTS", x.count(4), 0);
        Due.is("a LOT of 0", x.lot(0, 0, 0, 0), 0);
        Due.is("a LOT of 1000", x.lot(0, 0, 0, 1000), 1);
        Due.is("what they have left", Shops.left(x), "0 1000");
    }

    // "have a COLOUR": three numbers 0 .. 255
    private static void lotColours() {
        int[] parts = {-1, 0, 255, 256, Integer.MAX_VALUE, Integer.MIN_VALUE};
        for (int part : parts) {
            MosaicShop x = new MosaicShop();
            boolean is = part == 0 || part == 255;
            Due.is("red " + part, x.lot(part, 9, 9, 1), is ? 0 : BAD);
            Due.is("green " + part, x.lot(9, part, 9, 1), is ? 1 : BAD);
            Due.is("blue " + part, x.lot(9, 9, part, 1), is ? 2 : BAD);
            Due.is("LOTS", x.count(4), is ? 3 : 0);
        }
    }

    // "The nearest LOT to a FIELD: the least sum of the squares of the three differences"
    private static void leastSumOfSquares() {
        int[][][] pairs = {{{15, 10, 10}, {13, 13, 10}}, {{13, 13, 13}, {14, 10, 10}}, {{13, 10, 10}, {8, 10, 10}},
            {{10, 13, 10}, {10, 8, 10}}, {{10, 10, 13}, {10, 10, 8}}, {{7, 10, 10}, {12, 10, 10}},
            {{11, 11, 10}, {10, 10, 9}}, {{0, 0, 0}, {10, 10, 10}}, {{5, 10, 10}, {10, 14, 10}},
            {{10, 5, 10}, {14, 10, 10}}, {{10, 10, 5}, {10, 14, 10}}};
        for (int[][] pair : pairs) {
            for (int nearest = 0; nearest < 2; nearest++) {
                MosaicShop x = Shops.laid(3, 1, 3);
                x.colour(0, 10, 10, 10);
                for (int lot = 0; lot < 2; lot++) {
                    int[] c = pair[lot == nearest ? 1 : 0];
                    x.lot(c[0], c[1], c[2], 9);
                }
                x.paint();
                Due.is("the second of " + java.util.Arrays.deepToString(pair), x.cube(0, 4), nearest);
            }
        }
    }

    // the same, where the sum is as great as may be
    private static void theFarthestIsNearestToo() {
        MosaicShop x = Shops.laid(3, 1, 3);
        x.lot(255, 255, 255, 9);
        Due.is("the only LOT", x.paint(), 0);
        Due.is("its number", x.cube(0, 4), 0);
        for (int part = 0; part < 3; part++) {
            x = Shops.laid(3, 1, 3);
            x.lot(255, 255, 255, 9);
            x.lot(part == 0 ? 254 : 255, part == 1 ? 254 : 255, part == 2 ? 254 : 255, 9);
            x.paint();
            Due.is("nearer by one", x.cube(0, 4), 1);
        }
    }

    // "of like ones the least number"
    private static void ofLikeOnesTheLeastNumber() {
        MosaicShop x = Shops.laid(3, 1, 3);
        x.colour(0, 10, 10, 10);
        x.lot(13, 10, 10, 2);
        x.lot(10, 7, 10, 9);
        x.lot(10, 10, 13, 9);
        x.lot(10, 10, 13, 3);
        x.paint();
        Due.is("the first that has as many", x.cube(0, 4), 1);
    }

    // "the nearest of all LOTS that have as many left as it has PLACES gives all"
    private static void asManyLeftAsTheField() {
        MosaicShop x = Shops.laid(7, 1, 3);
        Shops.lots(x, 7);
        Due.is("just as many", x.paint(), 0);
        Due.is("LOTS", Shops.cubes(x, 4), "0 0 0");
        Due.is("left", Shops.left(x), "0");
        x = Shops.laid(7, 1, 3);
        Shops.lots(x, 6, 8, 7);
        Due.is("one less is not enough", x.paint(), 0);
        Due.is("LOTS", Shops.cubes(x, 4), "1 1 1");
        Due.is("left", Shops.left(x), "6 1 7");
        x = Shops.laid(24, 10, 3);
        Shops.lots(x, 239, 240);
        Due.is("the greatest FIELD", x.paint(), 0);
        Due.is("left", Shops.left(x), "239 0");
    }

    // the same: "as it has PLACES" in all rows and STRIPS
    private static void theFieldInAllItsStrips() {
        MosaicShop x = Shops.wall(5, 2, 3);
        x.draw(2, 0, 2, 1, 1);
        Shops.lots(x, 7, 8);
        x.lay();
        Due.is("none is BARE", x.paint(), 0);
        Due.is("LOTS", Shops.cubes(x, 4), "1 0 1 1 0 1");
        Due.is("left", Shops.left(x), "5 0");
    }

    // "If there is none, its CUBES in order: the nearest of all LOTS that have as many left as the CUBE has PLACES"
    private static void asManyLeftAsTheCube() {
        MosaicShop x = Shops.laid(6, 1, 3);
        Shops.lots(x, 3, 3);
        Due.is("just as many", x.paint(), 0);
        Due.is("LOTS", Shops.cubes(x, 4), "0 1");
        Due.is("left", Shops.left(x), "0 0");
        x = Shops.laid(6, 1, 3);
        Shops.lots(x, 2, 5);
        Due.is("one less is not enough", x.paint(), 1);
        Due.is("LOTS", Shops.cubes(x, 4), "1 -1");
        Due.is("left", Shops.left(x), "2 2");
    }

    // "if there is none, the CUBE is BARE"
    private static void bare() {
        MosaicShop x = Shops.laid(7, 1, 3);
        Due.is("no LOTS", x.paint(), 3);
        Due.is("PAINTED though", x.count(3), 3);
        x = Shops.laid(7, 1, 3);
        Shops.lots(x, 0, 0);
        Due.is("LOTS of 0", x.paint(), 3);
        Due.is("left", Shops.left(x), "0 0");
        x = Shops.laid(4, 1, 3);
        Shops.lots(x, 2);
        Due.is("one is BARE", x.paint(), 1);
        Due.is("a CUBE behind it is not", Shops.cubes(x, 4), "-1 0");
        Due.is("left", Shops.left(x), "1");
    }

    // "PAINTED: FIELDS in order"
    private static void fieldsInOrder() {
        MosaicShop x = Shops.wall(4, 1, 3);
        x.draw(0, 0, 0, 0, 7);
        x.draw(1, 0, 1, 0, 6);
        x.draw(2, 0, 2, 0, 1);
        Shops.lots(x, 1, 1, 1);
        x.lay();
        Due.is("the last is BARE", x.paint(), 1);
        Due.is("FIELD 0, 1, 6, 7", Shops.cubes(x, 4), "-1 2 1 0");
    }

    // "of each that has PLACES"
    private static void fieldsWithoutPlaces() {
        MosaicShop x = Shops.wall(3, 1, 3);
        x.draw(0, 0, 2, 0, 7);
        Shops.lots(x, 0, 3);
        x.lay();
        Due.is("the last FIELD alone", x.paint(), 0);
        Due.is("LOT", x.cube(0, 4), 1);
        Due.is("left", Shops.left(x), "0 0");
        Due.is("CHANGES of one that has none", x.changes(0), 0);
    }

    // "CHANGES of a FIELD: its CUBES with another LOT .. than its CUBE ahead in order has": the first has none ahead
    private static void changesOfOneCube() {
        MosaicShop x = Shops.laid(3, 1, 3);
        Shops.lots(x, 3);
        x.paint();
        Due.is("one CUBE", x.changes(0), 0);
        x = Shops.laid(3, 1, 3);
        x.paint();
        Due.is("one BARE CUBE", x.changes(0), 0);
    }

    // "(or BARE)"
    private static void changesOfBareOnes() {
        MosaicShop x = Shops.laid(3, 1, 1);
        x.paint();
        Due.is("BARE behind BARE", x.changes(0), 0);
        x = Shops.laid(3, 1, 1);
        Shops.lots(x, 1);
        x.paint();
        Due.is("BARE behind a LOT", x.changes(0), 1);
        x = Shops.laid(5, 1, 2);
        Shops.lots(x, 3);
        x.paint();
        Due.is("LOTS", Shops.cubes(x, 4), "0 -1 0");
        Due.is("BARE and back", x.changes(0), 2);
    }

    // "its CUBE ahead in order"
    private static void changesFromTheCubeAhead() {
        MosaicShop x = Shops.wall(5, 1, 3);
        x.draw(2, 0, 2, 0, 1);
        Shops.lots(x, 4, 1);
        x.lay();
        x.paint();
        Due.is("LOTS", Shops.cubes(x, 4), "0 1 0");
        Due.is("another FIELD between", x.changes(0), 0);
        Due.is("the one between", x.changes(1), 0);
        x = Shops.laid(1, 10, 1);
        Shops.lots(x, 1, 1, 1, 1, 1, 1, 1, 1, 1, 1);
        x.paint();
        Due.is("in other rows, another LOT each", x.changes(0), 9);
    }

    // "How many PLACES a LOT has left. BAD."
    private static void leftOfALot() {
        MosaicShop x = new MosaicShop();
        for (int lots = 0; lots <= 10; lots++) {
            Due.is("left(" + lots + ") of " + lots, x.left(lots), BAD);
            Due.is("left(-1) of " + lots, x.left(-1), BAD);
            Due.is("left(MAX) of " + lots, x.left(Integer.MAX_VALUE), BAD);
            Due.is("left(MIN) of " + lots, x.left(Integer.MIN_VALUE), BAD);
            x.lot(0, 0, 0, lots);
            Due.is("left(" + lots + ")", x.left(lots), lots < 10 ? lots : BAD);
        }
    }

    // "A LOT gets n more ..: how many it has left. .. NO: above 1000."
    private static void moreUpToAThousand() {
        MosaicShop x = new MosaicShop();
        Shops.lots(x, 990, 0, 1000);
        Due.is("above 1000", x.more(0, 11), NO);
        Due.is("left", Shops.left(x), "990 0 1000");
        Due.is("just 1000", x.more(0, 10), 1000);
        Due.is("none more", x.more(0, 0), 1000);
        Due.is("one more", x.more(0, 1), NO);
        Due.is("1000 and 1000", x.more(2, 1000), NO);
        Due.is("1000 more", x.more(1, 1000), 1000);
        Due.is("left", Shops.left(x), "1000 1000 1000");
    }

    // "n more (0 .. 1000)", "BAD"
    private static void moreNumbers() {
        MosaicShop x = new MosaicShop();
        Due.is("no LOT", x.more(0, 0), BAD);
        Shops.lots(x, 1000, 5);
        int[] wrong = {-1, 1001, Integer.MAX_VALUE, Integer.MIN_VALUE};
        for (int n : wrong) {
            Due.is("more(0, " + n + ")", x.more(0, n), BAD);
            Due.is("more(1, " + n + ")", x.more(1, n), BAD);
            Due.is("more(" + n + ", 1)", x.more(n, 1), BAD);
        }
        Due.is("more(2, 0)", x.more(2, 0), BAD);
        Due.is("left", Shops.left(x), "1000 5");
    }

    // "NO: not LAID, or it is PAINTED."
    private static void paintRefused() {
        MosaicShop x = Shops.wall(3, 1, 3);
        Shops.lots(x, 9);
        Due.is("not LAID", x.paint(), NO);
        Due.is("left", Shops.left(x), "9");
        x.lay();
        Due.is("LAID", x.paint(), 0);
        Due.is("PAINTED", x.paint(), NO);
        Due.is("left", Shops.left(x), "6");
        x = Shops.laid(3, 1, 3);
        Due.is("all BARE", x.paint(), 1);
        Shops.lots(x, 9);
        Due.is("PAINTED, though all is BARE", x.paint(), NO);
        Due.is("left", Shops.left(x), "9");
    }

    // "(what was given ahead is not given back)"
    private static void givenAhead() {
        MosaicShop x = Shops.laid(3, 1, 3);
        Shops.lots(x, 8);
        x.paint();
        x.lay();
        Due.is("PAINTED anew", x.paint(), 0);
        Due.is("left", Shops.left(x), "2");
        x.lay();
        Due.is("and no more", x.paint(), 1);
        Due.is("left", Shops.left(x), "2");
    }

    // "All that is PAINTED is given back to its LOTS (1000 at most each has then) ..: how many PLACES."
    private static void scrapeToAThousand() {
        MosaicShop x = Shops.laid(7, 1, 3);
        Shops.lots(x, 1000, 3);
        x.paint();
        Due.is("just 1000", x.scrape(), 7);
        Due.is("left", Shops.left(x), "1000 3");
        x.paint();
        x.more(0, 1);
        Due.is("above 1000 by one", x.scrape(), 7);
        Due.is("left", Shops.left(x), "1000 3");
        x.paint();
        x.more(0, 7);
        Due.is("nothing of it is kept", x.scrape(), 7);
        Due.is("left", Shops.left(x), "1000 3");
        Due.is("PAINTED no more", x.count(3), NO);
        Due.is("no LOTS", Shops.cubes(x, 4), "-1 -1 -1");
    }

    private static void scrapeOfBareOnes() {
        MosaicShop x = Shops.laid(7, 1, 3);
        x.paint();
        Due.is("all BARE", x.scrape(), 0);
        Due.is("PAINTED no more", x.scrape(), NO);
        Shops.lots(x, 4, 2);
        x.paint();
        Due.is("LOTS", Shops.cubes(x, 4), "0 -1 0");
        Due.is("one BARE", x.scrape(), 4);
        Due.is("left", Shops.left(x), "4 2");
    }

    // "NO: it is not."
    private static void scrapeRefused() {
        MosaicShop x = Shops.wall(3, 1, 3);
        Shops.lots(x, 9);
        Due.is("not LAID", x.scrape(), NO);
        x.lay();
        Due.is("LAID", x.scrape(), NO);
        x.cut(1, 1);
        Due.is("CUT", x.scrape(), NO);
        x.paint();
        Due.is("PAINTED", x.scrape(), 3);
        Due.is("once", x.scrape(), NO);
        Due.is("left", Shops.left(x), "9");
        x.paint();
        x.lay();
        Due.is("LAID anew", x.scrape(), NO);
        Due.is("left", Shops.left(x), "6");
    }

    // "CHANGES of a FIELD. BAD; NO: not PAINTED."
    private static void changesRefused() {
        MosaicShop x = Shops.wall(3, 1, 3);
        int[] wrong = {-1, 8, Integer.MAX_VALUE, Integer.MIN_VALUE};
        for (int step = 0; step < 4; step++) {
            for (int field : wrong) {
                Due.is("changes(" + field + ")", x.changes(field), BAD);
            }
            Due.is("changes(7) in step " + step, x.changes(7), step == 2 ? 0 : NO);
            Due.is("changes(0) in step " + step, x.changes(0), step == 2 ? 0 : NO);
            int told = step == 0 ? x.lay() : step == 1 ? x.paint() : x.scrape();
            Due.is("the next step", told, step == 0 || step == 1 ? 1 : step == 2 ? 0 : NO);
        }
    }
}
