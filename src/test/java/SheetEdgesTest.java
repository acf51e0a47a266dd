/** The sentences of the document that name an edge of SHEETS (3 and 4, promises 16 to 20), each ahead of its own test. */
public final class SheetEdgesTest {
    private static final int BAD = MosaicShop.BAD, NO = MosaicShop.NO;

    public static void main(String[] args) {
        bandsOfRows();
        theLastBand();
        cutsBelowTheWidth();
        cutsAtBorders();
        cutsAtTheEnds();
        ofTwoAsNearTheLeftOne();
        columnsRoundedUp();
        cutsNotRightOfTheLeftBorder();
        turnedOver();
        nothingOfAGreaterWall();
        weightAndLeaf();
        sheetsWithoutCubes();
        cutNumbers();
        cutRefused();
        cutAnew();
        whatIsCutStays();
        sheetNumbers();
        sheetWhat();
        sheetsWhenNotCut();
        crateJustFull();
        crateAboveItself();
        theLatestCrateAlone();
        sheetsWithoutWeight();
        crateNumbers();
        brokenJustAsMany();
        brokenByTheNearestThatHas();
        brokenTakesNothing();
        brokenBareOnes();
        brokenRefused();
        Due.end("SheetEdgesTest");
    }

    /** SHEETS of the WEIGHTS 3, 4 and 2. */
    private static MosaicShop threeFourTwo() {
        MosaicShop x = Shops.wall(9, 1, 3);
        x.draw(3, 0, 6, 0, 1);
        x.mark(1, 2, false, false);
        x.lay();
        x.cut(1, 4);
        return x;
    }

    // "BANDS of a rows from 0 on"
    private static void bandsOfRows() {
        MosaicShop x = Shops.laid(1, 4, 3);
        String[] due = {"0 1 2 3", "0 0 1 1", "0 0 0 1", "0 0 0 0", "0 0 0 0"};
        for (int a = 1; a <= 5; a++) {
            x.cut(a, 1);
            Due.is("BANDS of " + a, Shops.cubes(x, 5), due[a - 1]);
        }
    }

    // "(the last of fewer, perhaps)"
    private static void theLastBand() {
        MosaicShop x = Shops.laid(1, 10, 3);
        int[] due = {10, 5, 4, 3, 2, 2, 2, 2, 2, 1};
        for (int a = 1; a <= 10; a++) {
            Due.is("BANDS of " + a, x.cut(a, 24), due[a - 1]);
            int last = x.sheet(due[a - 1] - 1, 1);
            Due.is("rows of the last", last, 10 - a * (due[a - 1] - 1));
        }
        x = Shops.laid(1, 3, 3);
        Due.is("one BAND, and that of fewer", x.cut(10, 24), 1);
        Due.is("its rows", x.sheet(0, 1), 3);
    }

    // "for k = 1, 2, .. with k b below w"
    private static void cutsBelowTheWidth() {
        String[] due = {"0 1 2 3 4 5", "0 0 1 1 2 2", "0 0 0 1 1 1", "0 0 0 0 1 1", "0 0 0 0 0 1", "0 0 0 0 0 0",
            "0 0 0 0 0 0"};
        MosaicShop x = Shops.laid(6, 1, 1);
        for (int b = 1; b <= 7; b++) {
            x.cut(1, b);
            Due.is("CUT by " + b, Shops.cubes(x, 5), due[b - 1]);
        }
        x = Shops.laid(24, 1, 3);
        x.cut(1, 24);
        Due.is("24 is not below 24", Shops.cubes(x, 5), "0 0 0 0 0 0 0 0");
        x.cut(1, 23);
        Due.is("23 is, and 24 is nearest", Shops.cubes(x, 5), "0 0 0 0 0 0 0 0");
        x.cut(1, 22);
        Due.is("22 is, and 21 is nearest", Shops.cubes(x, 5), "0 0 0 0 0 0 0 1");
    }

    // "the border of two CUBES (or of a STRIP ..) nearest to k b"
    private static void cutsAtBorders() {
        MosaicShop x = Shops.laid(6, 1, 3);
        x.cut(1, 2);
        Due.is("3 is nearest to 2 and to 4", Shops.cubes(x, 5), "0 2");
        x = Shops.wall(6, 1, 3);
        x.draw(2, 0, 5, 0, 1);
        x.lay();
        x.cut(1, 2);
        Due.is("2 of a STRIP, 5 of two CUBES", Shops.cubes(x, 5), "0 1 2");
        x = Shops.laid(7, 2, 3);
        x.cut(2, 4);
        Due.is("each row's own", Shops.cubes(x, 5), "0 1 1 0 0 1");
    }

    // "0 and w too"
    private static void cutsAtTheEnds() {
        MosaicShop x = Shops.laid(3, 1, 3);
        x.cut(1, 1);
        Due.is("1 at 0, 2 at w", Shops.cubes(x, 5), "1");
        x.cut(1, 2);
        Due.is("2 at w", Shops.cubes(x, 5), "0");
        x = Shops.laid(8, 4, 3);
        x.cut(10, 1);
        Due.is("CUTS at one border count each", Shops.cubes(x, 5), "1 4 7 1 3 6 1 4 7 1 3 6");
    }

    // "of two as near the left one"
    private static void ofTwoAsNearTheLeftOne() {
        MosaicShop x = Shops.laid(2, 1, 2);
        x.cut(1, 1);
        Due.is("0 ahead of w", Shops.cubes(x, 5), "1");
        x = Shops.laid(8, 1, 2);
        x.cut(1, 3);
        Due.is("2 ahead of 4", Shops.cubes(x, 5), "0 1 1 2");
    }

    // "(COLUMNS: w by b, rounded up)"
    private static void columnsRoundedUp() {
        MosaicShop x = Shops.laid(7, 1, 3);
        int[] due = {7, 4, 3, 2, 2, 2, 1, 1};
        for (int b = 1; b <= 8; b++) {
            Due.is("COLUMNS by " + b, x.cut(1, b), due[b - 1]);
        }
        Due.is("COLUMNS by 24", x.cut(1, 24), 1);
        x = Shops.laid(24, 1, 3);
        Due.is("24 by 23", x.cut(1, 23), 2);
        Due.is("24 by 12", x.cut(1, 12), 2);
        Due.is("24 by 11", x.cut(1, 11), 3);
        x = Shops.laid(7, 3, 3);
        Due.is("2 BANDS of 2 COLUMNS", x.cut(2, 4), 4);
        Due.is("by BANDS", Shops.cubes(x, 5), "0 1 1 0 0 1 2 3 3");
    }

    // "of as many CUTS of its row as are not right of its left border"
    private static void cutsNotRightOfTheLeftBorder() {
        MosaicShop x = Shops.laid(4, 1, 2);
        x.cut(1, 2);
        Due.is("a CUT at its left border, none at its right one", Shops.cubes(x, 5), "0 1");
    }

    // "Its PLACE TURNED OVER: how many PLACES lie right of it in its row and SHEET."
    private static void turnedOver() {
        MosaicShop x = Shops.laid(5, 2, 3);
        Due.is("not CUT", Shops.cubes(x, 6), "-1 -1 -1 -1");
        x.cut(2, 24);
        Due.is("in its row", Shops.cubes(x, 6), "2 0 3 0");
        x.cut(2, 3);
        Due.is("in its SHEET", Shops.cubes(x, 6), "0 0 0 0");
        x = Shops.laid(24, 1, 1);
        x.cut(1, 24);
        Due.is("the first of 24", x.cube(0, 6), 23);
        Due.is("the last of 24", x.cube(23, 6), 0);
        x.cut(1, 12);
        Due.is("the first of 12", x.cube(12, 6), 11);
        Due.is("the last of 12", x.cube(11, 6), 0);
    }

    // the same of the last CUBE, where a greater WALL had one behind it
    private static void nothingOfAGreaterWall() {
        MosaicShop x = Shops.laid(24, 1, 3);
        Shops.lots(x, 1000);
        x.paint();
        x.cut(1, 24);
        x.wall(3, 1);
        x.lay();
        x.paint();
        x.cut(1, 24);
        x.mark(0, 3, true, false);
        Due.is("left", Shops.left(x), "973");
        Due.is("TURNED OVER", Shops.cubes(x, 6), "0");
        Due.is("CUBES of the SHEET", x.sheet(0, 0), 1);
        Due.is("WEIGHT", x.sheet(0, 1), 3);
        Due.is("LEAF", x.sheet(0, 2), 3);
        Due.is("greatest right border", x.sheet(0, 5), 3);
        Due.is("broken", x.broken(0), 0);
        Due.is("left", Shops.left(x), "970");
        Due.is("scrape", x.scrape(), 3);
        x = Shops.laid(24, 1, 3);
        x.paint();
        x.wall(3, 1);
        x.lay();
        Shops.lots(x, 3);
        Due.is("none is BARE any more", x.paint(), 0);
        Due.is("BARE ones", x.count(3), 0);
    }

    // "WEIGHT of a SHEET: its PLACES; LEAF: those of GOLD FIELDS."
    private static void weightAndLeaf() {
        MosaicShop x = threeFourTwo();
        Due.is("WEIGHT", Shops.sheets(x, 1), "3 4 2");
        Due.is("none is GOLD", Shops.sheets(x, 2), "0 0 0");
        x.mark(1, 2, true, false);
        Due.is("one is GOLD", Shops.sheets(x, 2), "0 4 0");
        x.mark(0, 3, true, false);
        Due.is("all are GOLD", Shops.sheets(x, 2), "3 4 2");
        x = Shops.laid(24, 10, 3);
        x.mark(0, 3, true, true);
        x.cut(10, 24);
        Due.is("the heaviest", x.sheet(0, 1), 240);
        Due.is("its LEAF", x.sheet(0, 2), 240);
        Due.is("a HEAD", x.sheet(0, 3), 1);
    }

    // "4 the least left border in it, 5 the greatest right border (NONE: it has no CUBE)"
    private static void sheetsWithoutCubes() {
        MosaicShop x = Shops.laid(3, 1, 3);
        x.mark(0, 3, true, true);
        x.cut(1, 1);
        String[] due = {"0 1 0", "0 3 0", "0 3 0", "0 1 0", "-1 0 -1", "-1 3 -1"};
        for (int what = 0; what < due.length; what++) {
            Due.is("sheet(.., " + what + ")", Shops.sheets(x, what), due[what]);
        }
        x = Shops.laid(24, 10, 3);
        x.cut(10, 24);
        Due.is("least left border", x.sheet(0, 4), 0);
        Due.is("greatest right border", x.sheet(0, 5), 24);
    }

    // "CUT by a (1 .. 10), b (1 .. 24)"
    private static void cutNumbers() {
        MosaicShop x = Shops.laid(24, 10, 3);
        for (int a = -1; a <= 12; a++) {
            Due.is("cut(" + a + ", 24)", x.cut(a, 24), a >= 1 && a <= 10 ? (10 + a - 1) / a : BAD);
        }
        Due.is("as it was", x.count(5), 1);
        for (int b = -1; b <= 26; b++) {
            Due.is("cut(10, " + b + ")", x.cut(10, b), b >= 1 && b <= 24 ? (24 + b - 1) / b : BAD);
        }
        int[] wrong = {Integer.MAX_VALUE, Integer.MIN_VALUE};
        for (int n : wrong) {
            Due.is("cut(" + n + ", 1)", x.cut(n, 1), BAD);
            Due.is("cut(1, " + n + ")", x.cut(1, n), BAD);
        }
        Due.is("as it was", x.count(5), 1);
        Due.is("the most SHEETS", x.cut(1, 1), 240);
        Due.is("the last of them", x.sheet(239, 5), 24);
    }

    // "BAD; NO: not LAID."
    private static void cutRefused() {
        MosaicShop x = Shops.wall(3, 1, 3);
        Due.is("not LAID", x.cut(1, 1), NO);
        Due.is("BAD ahead of NO, a", x.cut(11, 1), BAD);
        Due.is("BAD ahead of NO, b", x.cut(1, 25), BAD);
        x.lay();
        Due.is("LAID", x.cut(1, 1), 3);
        x.wall(3, 1);
        Due.is("LAID no more", x.cut(1, 1), NO);
        Due.is("SHEETS", x.count(5), 0);
    }

    // "what is PAINTED and CUT stays else till it is told anew"
    private static void cutAnew() {
        MosaicShop x = Shops.wall(6, 2, 1);
        x.draw(0, 1, 2, 1, 1);
        x.draw(3, 1, 5, 1, 2);
        x.lay();
        x.cut(1, 2);
        Due.is("WEIGHT", Shops.sheets(x, 1), "2 2 2 3 0 3");
        Due.is("SHEETS", Shops.cubes(x, 5), "0 0 1 1 2 2 3 5");
        Due.is("TURNED OVER", Shops.cubes(x, 6), "1 0 1 0 1 0 0 0");
        x.cut(2, 3);
        Due.is("WEIGHT anew", Shops.sheets(x, 1), "6 6");
        Due.is("SHEETS anew", Shops.cubes(x, 5), "0 0 0 1 1 1 0 1");
        Due.is("TURNED OVER anew", Shops.cubes(x, 6), "2 1 0 2 1 0 0 0");
    }

    private static void whatIsCutStays() {
        MosaicShop x = Shops.laid(7, 2, 3);
        x.cut(2, 4);
        String sheets = Shops.cubes(x, 5);
        Shops.lots(x, 40, 3);
        x.paint();
        Due.is("when PAINTED", Shops.cubes(x, 5), sheets);
        Due.is("BAD cut", x.cut(0, 0), BAD);
        x.broken(0);
        x.colour(0, 1, 1, 1);
        x.mark(0, 1, true, true);
        x.more(1, 5);
        x.hand(1, true);
        x.days();
        x.draw(0, 0, 6, 1, 0);
        Due.is("when others tell other things", Shops.cubes(x, 5), sheets);
        Due.is("PAINTED stays too", x.count(3), 0);
        Due.is("CUT anew", x.cut(1, 24), 2);
        Due.is("PAINTED stays then", Shops.cubes(x, 4), "0 0 0 0 0 0");
        x.scrape();
        Due.is("when scraped", Shops.cubes(x, 5), "0 0 0 1 1 1");
    }

    // "BAD -2 a number is not as told (a SHEET ..": when CUT, those that are not
    private static void sheetNumbers() {
        MosaicShop x = threeFourTwo();
        x.paint();
        x.hand(1, true);
        Due.is("the first", x.sheet(0, 1), 3);
        Due.is("the last", x.sheet(2, 1), 2);
        Due.is("broken, the last", x.broken(2), 0);
        Due.is("crate of the last", x.crate(240, 2), 0);
        Due.is("dealt of the last", x.dealt(2), 0);
        int[] wrong = {-1, 3, 4, 240, Integer.MAX_VALUE, Integer.MIN_VALUE};
        for (int s : wrong) {
            Due.is("sheet(" + s + ", 1)", x.sheet(s, 1), BAD);
            Due.is("broken(" + s + ")", x.broken(s), BAD);
            Due.is("crate(240, " + s + ")", x.crate(240, s), BAD);
            Due.is("dealt(" + s + ")", x.dealt(s), BAD);
        }
    }

    // "Of a SHEET: 0 .. 5"
    private static void sheetWhat() {
        MosaicShop x = threeFourTwo();
        int[] wrong = {-1, 6, Integer.MAX_VALUE, Integer.MIN_VALUE};
        for (int what : wrong) {
            Due.is("sheet(0, " + what + ")", x.sheet(0, what), BAD);
        }
        Due.is("sheet(1, 0)", x.sheet(1, 0), 2);
        Due.is("sheet(1, 5)", x.sheet(1, 5), 7);
        x.lay();
        for (int what : wrong) {
            Due.is("not CUT: sheet(0, " + what + ")", x.sheet(0, what), BAD);
        }
    }

    // "(a SHEET, if it is not CUT, only below 0)"
    private static void sheetsWhenNotCut() {
        MosaicShop x = threeFourTwo();
        x.hand(1, true);
        x.lay();
        x.paint();
        int[] sheets = {0, 2, 3, 240, Integer.MAX_VALUE, -1, Integer.MIN_VALUE};
        for (int s : sheets) {
            int due = s < 0 ? BAD : NO;
            Due.is("sheet(" + s + ", 0)", x.sheet(s, 0), due);
            Due.is("broken(" + s + ")", x.broken(s), due);
            Due.is("crate(1, " + s + ")", x.crate(1, s), due);
            Due.is("dealt(" + s + ")", x.dealt(s), due);
        }
        Due.is("crates(1)", x.crates(1), NO);
        Due.is("days()", x.days(), NO);
    }

    // "each into the latest CRATE, or, if that would have above m then, into a new one"
    private static void crateJustFull() {
        MosaicShop x = threeFourTwo();
        String[] due = {"0 1 2", "0 1 2", "0 1 1", "0 0 1", "0 0 1", "0 0 0", "0 0 0"};
        for (int m = 4; m <= 10; m++) {
            Due.is("CRATES for " + m, Shops.crates(x, m), due[m - 4]);
            Due.is("crates(" + m + ")", x.crates(m), due[m - 4].charAt(4) - '0' + 1);
        }
        x = Shops.laid(24, 10, 3);
        x.cut(1, 24);
        int[][] many = {{23, 10}, {24, 10}, {47, 10}, {48, 5}, {239, 2}, {240, 1}};
        for (int[] a : many) {
            Due.is("crates(" + a[0] + ")", x.crates(a[0]), a[1]);
            Due.is("crate(" + a[0] + ", 9)", x.crate(a[0], 9), a[1] - 1);
        }
    }

    // "(alone, if it is itself above m)"
    private static void crateAboveItself() {
        MosaicShop x = threeFourTwo();
        for (int m = 1; m <= 3; m++) {
            Due.is("the one above " + m + " alone", Shops.crates(x, m), "0 1 2");
        }
        x = Shops.row(5, 4);
        Due.is("WEIGHT", Shops.sheets(x, 1), "4 1");
        Due.is("nothing behind it", Shops.crates(x, 3), "0 1");
        x.cut(1, 24);
        Due.is("the only one", x.crates(1), 1);
    }

    // the same: "the latest"
    private static void theLatestCrateAlone() {
        MosaicShop x = threeFourTwo();
        Due.is("no room in the latest, room in the first", Shops.crates(x, 5), "0 1 2");
    }

    // "SHEETS with WEIGHT, in order", "NONE: it has no WEIGHT."
    private static void sheetsWithoutWeight() {
        MosaicShop x = Shops.laid(7, 1, 3);
        x.cut(1, 1);
        Due.is("WEIGHT", Shops.sheets(x, 1), "0 3 0 0 3 0 1");
        Due.is("CRATES for 1", Shops.crates(x, 1), "-1 0 -1 -1 1 -1 2");
        Due.is("CRATES for 6", Shops.crates(x, 6), "-1 0 -1 -1 0 -1 1");
        Due.is("CRATES for 7", Shops.crates(x, 7), "-1 0 -1 -1 0 -1 0");
        Due.is("crates(6)", x.crates(6), 2);
    }

    // "How many CRATES for m (1 .. 240). BAD; NO: not CUT."
    private static void crateNumbers() {
        MosaicShop x = Shops.laid(3, 1, 3);
        int[] sizes = {0, 241, -1, Integer.MAX_VALUE, Integer.MIN_VALUE, 1, 240};
        for (int round = 0; round < 2; round++) {
            for (int m : sizes) {
                boolean is = m == 1 || m == 240;
                Due.is("crates(" + m + ")", x.crates(m), !is ? BAD : round == 0 ? NO : 1);
                Due.is("crate(" + m + ", 0)", x.crate(m, 0), !is ? BAD : round == 0 ? NO : 0);
            }
            x.cut(1, 3);
        }
    }

    // "each by its LOT, if that has as many left"
    private static void brokenJustAsMany() {
        MosaicShop x = Shops.laid(3, 1, 3);
        x.lot(9, 9, 9, 6);
        x.paint();
        Shops.lots(x, 9);
        x.cut(1, 3);
        Due.is("just as many, though another LOT is nearer", x.broken(0), 0);
        Due.is("left", Shops.left(x), "0 9");
        x.more(0, 2);
        Due.is("one less is not enough", x.broken(0), 1);
        Due.is("left", Shops.left(x), "2 6");
        x.more(0, 900);
        Due.is("its LOT of now", x.broken(0), 0);
        Due.is("left", Shops.left(x), "902 3");
    }

    // "else by the nearest of all that have"
    private static void brokenByTheNearestThatHas() {
        MosaicShop x = Shops.laid(3, 1, 3);
        x.lot(0, 0, 0, 3);
        x.paint();
        x.lot(0, 0, 1, 2);
        x.lot(0, 0, 9, 9);
        x.lot(0, 0, 2, 3);
        x.lot(0, 2, 0, 3);
        x.cut(1, 3);
        Due.is("another LOT", x.broken(0), 1);
        Due.is("the nearest that has as many, of like ones the least", x.cube(0, 4), 3);
        Due.is("left", Shops.left(x), "0 2 9 0 3");
    }

    // "if there is none for one, it is not made, and nothing is taken"
    private static void brokenTakesNothing() {
        MosaicShop x = Shops.laid(9, 1, 3);
        Shops.lots(x, 0, 9);
        x.paint();
        x.more(0, 5);
        x.more(1, 3);
        x.cut(1, 24);
        Due.is("none for the last of three", x.broken(0), NO);
        Due.is("left", Shops.left(x), "5 3");
        Due.is("LOTS as they were", Shops.cubes(x, 4), "1 1 1");
        x.more(1, 2);
        Due.is("none still", x.broken(0), NO);
        Due.is("left", Shops.left(x), "5 5");
        x.more(0, 1);
        Due.is("one for each", x.broken(0), 2);
        Due.is("left", Shops.left(x), "0 2");
        Due.is("LOTS then", Shops.cubes(x, 4), "1 0 0");
    }

    // "its CUBES that are not BARE": of one that has none, nothing is to be made
    private static void brokenBareOnes() {
        MosaicShop x = Shops.laid(6, 1, 3);
        Shops.lots(x, 3);
        x.paint();
        x.cut(1, 3);
        Due.is("LOTS", Shops.cubes(x, 4), "0 -1");
        Due.is("all BARE", x.broken(1), 0);
        Due.is("none left for the other", x.broken(0), NO);
        x.more(0, 6);
        Due.is("BARE stays", x.broken(1), 0);
        Due.is("left", Shops.left(x), "6");
        x.cut(1, 24);
        Due.is("but one BARE", x.broken(0), 0);
        Due.is("left", Shops.left(x), "3");
        Due.is("LOTS", Shops.cubes(x, 4), "0 -1");
        x.cut(1, 1);
        Due.is("a SHEET without CUBES", x.broken(0), 0);
        Due.is("left", Shops.left(x), "3");
    }

    // "BAD; NO: not CUT, not PAINTED, or it can't be made."
    private static void brokenRefused() {
        MosaicShop x = Shops.wall(3, 1, 3);
        Shops.lots(x, 9);
        Due.is("not LAID", x.broken(0), NO);
        x.lay();
        Due.is("LAID", x.broken(0), NO);
        x.paint();
        Due.is("not CUT", x.broken(0), NO);
        x.scrape();
        x.cut(1, 3);
        Due.is("not PAINTED", x.broken(0), NO);
        Due.is("BAD ahead of NO", x.broken(1), BAD);
        Due.is("left", Shops.left(x), "9");
        x.paint();
        Due.is("CUT and PAINTED", x.broken(0), 0);
        Due.is("and once more", x.broken(0), 0);
        Due.is("it can't be made", x.broken(0), NO);
        Due.is("left", Shops.left(x), "0");
    }
}
