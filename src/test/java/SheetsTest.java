/** Promises 16 to 20: cut, sheet, broken, crates, crate. */
public final class SheetsTest {
    private static final int NONE = MosaicShop.NONE, BAD = MosaicShop.BAD, NO = MosaicShop.NO;

    public static void main(String[] args) {
        bandsAndColumns();
        cutsAtTheNearestBorder();
        cutsAtOneBorderCountEach();
        cutRefuses();
        cutAnew();
        turnedOver();
        partsOfASheet();
        sheetRefuses();
        brokenByItsOwnLots();
        brokenByTheNearest();
        brokenCanNotBeMade();
        brokenLeavesBare();
        brokenRefuses();
        cratesByWeight();
        cratesRefuse();
        Due.end("SheetsTest");
    }

    private static MosaicShop laid(int w, int h, int longest) {
        MosaicShop x = new MosaicShop();
        x.wall(w, h);
        x.mark(0, longest, false, false);
        x.lay();
        return x;
    }

    private static void each(String call, MosaicShop x, int what, int... due) {
        Due.is(call + ": CUBES", x.count(2), due.length);
        for (int i = 0; i < due.length; i++) {
            Due.is(call + ": cube(" + i + ", " + what + ")", x.cube(i, what), due[i]);
        }
    }

    private static void eachSheet(String call, MosaicShop x, int what, int... due) {
        Due.is(call + ": SHEETS", x.count(5), due.length);
        for (int s = 0; s < due.length; s++) {
            Due.is(call + ": sheet(" + s + ", " + what + ")", x.sheet(s, what), due[s]);
        }
    }

    private static void bandsAndColumns() {
        MosaicShop x = laid(24, 10, 3);
        Due.is("16: cut(1, 1)", x.cut(1, 1), 240);
        Due.is("16: cut(10, 24)", x.cut(10, 24), 1);
        Due.is("16: cut(3, 24)", x.cut(3, 24), 4);
        Due.is("16: cut(10, 23)", x.cut(10, 23), 2);
        Due.is("16: cut(4, 7)", x.cut(4, 7), 12);
        Due.is("16: cut(5, 12)", x.cut(5, 12), 4);
        x = laid(2, 5, 2);
        Due.is("16: cut(2, 2)", x.cut(2, 2), 3);
        each("16: BANDS of 2 rows, the last of 1", x, 5, 0, 0, 1, 1, 2);
    }

    private static void cutsAtTheNearestBorder() {
        MosaicShop x = laid(7, 2, 3);
        Due.is("16: cut(2, 4)", x.cut(2, 4), 2);
        each("16: 3 of 331, and of 232 5", x, 5, 0, 1, 1, 0, 0, 1);
        x = laid(8, 1, 2);
        x.cut(1, 3);
        each("16: of 2 and 4 the left one, 6", x, 5, 0, 1, 1, 2);
        x = laid(3, 1, 3);
        x.cut(1, 2);
        each("16: w may be nearest", x, 5, 0);
        x.cut(1, 1);
        each("16: 0 may be nearest", x, 5, 1);
        x = new MosaicShop();
        x.wall(6, 1);
        x.draw(2, 0, 5, 0, 1);
        x.lay();
        x.cut(1, 2);
        each("16: a STRIP's border", x, 5, 0, 1, 2);
    }

    private static void cutsAtOneBorderCountEach() {
        MosaicShop x = laid(8, 4, 3);
        x.cut(10, 1);
        each("16: each k has its CUT", x, 5, 1, 4, 7, 1, 3, 6, 1, 4, 7, 1, 3, 6);
    }

    private static void cutRefuses() {
        MosaicShop x = new MosaicShop();
        Due.is("16: not LAID", x.cut(1, 1), NO);
        Due.is("16: BAD ahead of NO", x.cut(0, 1), BAD);
        x = laid(7, 2, 3);
        x.cut(1, 4);
        int[][] wrong = {{0, 1}, {11, 1}, {1, 0}, {1, 25}, {-1, 1}, {1, -1}, {Integer.MAX_VALUE, 1},
            {1, Integer.MIN_VALUE}};
        for (int[] a : wrong) {
            Due.is("16: cut(" + a[0] + ", " + a[1] + ")", x.cut(a[0], a[1]), BAD);
        }
        Due.is("16: CUT as it was", x.count(5), 4);
    }

    private static void cutAnew() {
        MosaicShop x = laid(7, 2, 3);
        x.cut(1, 4);
        each("16: SHEETS", x, 5, 0, 1, 1, 2, 2, 3);
        eachSheet("17: WEIGHT", x, 1, 3, 4, 5, 2);
        Due.is("16: cut anew", x.cut(10, 24), 1);
        each("16: SHEETS anew", x, 5, 0, 0, 0, 0, 0, 0);
        eachSheet("17: WEIGHT anew", x, 1, 14);
    }

    private static void turnedOver() {
        MosaicShop x = laid(7, 2, 3);
        each("9: not CUT", x, 6, NONE, NONE, NONE, NONE, NONE, NONE);
        x.cut(2, 24);
        each("9: TURNED OVER, whole rows", x, 6, 4, 1, 0, 5, 2, 0);
        x.cut(1, 4);
        each("9: TURNED OVER, in its SHEET", x, 6, 0, 1, 0, 3, 0, 0);
        x.cut(2, 4);
        each("9: TURNED OVER, in its row too", x, 6, 0, 1, 0, 3, 0, 0);
    }

    private static MosaicShop twoFields() {
        MosaicShop x = new MosaicShop();
        x.wall(7, 2);
        x.draw(5, 0, 6, 1, 3);
        x.lay();
        x.cut(1, 4);
        return x;
    }

    private static void partsOfASheet() {
        MosaicShop x = twoFields();
        each("17: PLACES", x, 2, 3, 2, 2, 2, 3, 2);
        each("17: SHEETS", x, 5, 0, 1, 1, 2, 2, 3);
        eachSheet("17: CUBES", x, 0, 1, 2, 2, 1);
        eachSheet("17: WEIGHT", x, 1, 3, 4, 5, 2);
        eachSheet("17: no LEAF", x, 2, 0, 0, 0, 0);
        eachSheet("17: no HEAD", x, 3, 0, 0, 0, 0);
        eachSheet("17: least left border", x, 4, 0, 3, 0, 5);
        eachSheet("17: greatest right border", x, 5, 3, 7, 5, 7);
        x.mark(3, 1, true, false);
        eachSheet("17: LEAF", x, 2, 0, 2, 0, 2);
        eachSheet("17: GOLD is no HEAD", x, 3, 0, 0, 0, 0);
        x.mark(3, 1, false, true);
        eachSheet("17: a HEAD is not GOLD", x, 2, 0, 0, 0, 0);
        eachSheet("17: HEAD", x, 3, 0, 1, 0, 1);
        x.cut(2, 4);
        eachSheet("17: CUBES of both rows", x, 0, 3, 3);
        eachSheet("17: WEIGHT of both rows", x, 1, 8, 6);
        eachSheet("17: least left border of both", x, 4, 0, 3);
        eachSheet("17: greatest right border of both", x, 5, 5, 7);
        eachSheet("17: HEAD on one", x, 3, 0, 1);
        x = laid(3, 1, 3);
        x.cut(1, 1);
        eachSheet("17: no CUBE, no CUBES", x, 0, 0, 1, 0);
        eachSheet("17: no CUBE, no WEIGHT", x, 1, 0, 3, 0);
        eachSheet("17: no CUBE, no left border", x, 4, NONE, 0, NONE);
        eachSheet("17: no CUBE, no right border", x, 5, NONE, 3, NONE);
        x.mark(0, 3, true, true);
        eachSheet("17: no CUBE, no LEAF", x, 2, 0, 3, 0);
        eachSheet("17: no CUBE, no HEAD", x, 3, 0, 1, 0);
    }

    private static void sheetRefuses() {
        MosaicShop x = laid(7, 2, 3);
        Due.is("17: not CUT", x.sheet(0, 0), NO);
        Due.is("17: not CUT, any SHEET", x.sheet(Integer.MAX_VALUE, 5), NO);
        Due.is("17: not CUT, below 0", x.sheet(-1, 0), BAD);
        Due.is("17: not CUT, what", x.sheet(0, 6), BAD);
        x.cut(1, 4);
        int[][] wrong = {{-1, 0}, {4, 0}, {Integer.MAX_VALUE, 0}, {0, -1}, {0, 6}, {0, Integer.MIN_VALUE}};
        for (int[] a : wrong) {
            Due.is("17: sheet(" + a[0] + ", " + a[1] + ")", x.sheet(a[0], a[1]), BAD);
        }
        Due.is("17: the last", x.sheet(3, 5), 7);
    }

    private static void brokenByItsOwnLots() {
        MosaicShop x = laid(7, 2, 3);
        x.lot(0, 0, 0, 30);
        x.paint();
        x.lot(0, 0, 0, 30);
        x.cut(1, 4);
        Due.is("18: by its own LOT", x.broken(1), 0);
        Due.is("18: it is taken", x.left(0), 12);
        Due.is("18: from there alone", x.left(1), 30);
        x.colour(0, 9, 9, 9);
        x.lot(9, 9, 9, 30);
        Due.is("18: by its own LOT, if another is nearer too", x.broken(2), 0);
        Due.is("18: the SHEET's PLACES", x.left(0), 7);
        x = laid(3, 1, 3);
        x.lot(9, 9, 9, 6);
        x.paint();
        x.lot(0, 0, 0, 30);
        x.cut(1, 24);
        Due.is("18: by its own LOT, if that has just as many", x.broken(0), 0);
        Due.is("18: none left", x.left(0), 0);
        Due.is("18: by another then", x.broken(0), 1);
        Due.is("18: a SHEET without CUBES", emptySheet().broken(0), 0);
    }

    private static MosaicShop emptySheet() {
        MosaicShop x = laid(3, 1, 3);
        x.lot(0, 0, 0, 3);
        x.paint();
        x.cut(1, 1);
        return x;
    }

    private static void brokenByTheNearest() {
        MosaicShop x = laid(7, 1, 3);
        x.lot(0, 0, 0, 10);
        x.paint();
        x.lot(0, 5, 0, 30);
        x.lot(0, 3, 0, 3);
        x.cut(1, 24);
        Due.is("18: the first by its own, two by others", x.broken(0), 2);
        each("18: LOTS", x, 4, 0, 2, 1);
        Due.is("18: left(0)", x.left(0), 0);
        Due.is("18: left(2)", x.left(2), 0);
        Due.is("18: left(1)", x.left(1), 29);
        x.more(0, 1);
        Due.is("18: each by the LOT that it has now", x.broken(0), 2);
        each("18: LOTS then", x, 4, 1, 1, 1);
        Due.is("18: left(1) then", x.left(1), 22);
        Due.is("15: CHANGES then", x.changes(0), 0);
        Due.is("14: given back to the LOTS that they have now", x.scrape(), 7);
        Due.is("14: left(0)", x.left(0), 1);
        Due.is("14: left(1)", x.left(1), 29);
        x = laid(3, 1, 3);
        x.lot(0, 0, 0, 3);
        x.paint();
        x.lot(0, 0, 0, 9);
        x.lot(9, 0, 0, 9);
        x.colour(0, 9, 0, 0);
        x.cut(1, 24);
        Due.is("18: nearest to the COLOUR of now", x.broken(0), 1);
        each("18: LOT", x, 4, 2);
    }

    private static void brokenCanNotBeMade() {
        MosaicShop x = laid(7, 1, 3);
        x.lot(0, 0, 0, 0);
        x.lot(0, 0, 0, 7);
        x.paint();
        x.more(0, 3);
        x.more(1, 1);
        x.lot(0, 0, 0, 2);
        x.cut(1, 24);
        long before = x.digest();
        Due.is("18: none for the second", x.broken(0), NO);
        Due.is("18: nothing is taken", x.digest(), before);
        each("18: LOTS as they were", x, 4, 1, 1, 1);
        x.more(2, 1);
        Due.is("18: it can be made", x.broken(0), 2);
        each("18: LOTS", x, 4, 0, 2, 1);
        for (int lot = 0; lot < 3; lot++) {
            Due.is("18: left(" + lot + ")", x.left(lot), 0);
        }
    }

    private static void brokenLeavesBare() {
        MosaicShop x = laid(7, 1, 3);
        x.lot(0, 0, 0, 3);
        Due.is("13: two are BARE", x.paint(), 2);
        x.more(0, 100);
        x.cut(1, 24);
        Due.is("18: BARE ones are not made", x.broken(0), 0);
        each("18: BARE still", x, 4, 0, NONE, NONE);
        Due.is("18: left(0)", x.left(0), 97);
        Due.is("18: BARE", x.count(3), 2);
    }

    private static void brokenRefuses() {
        MosaicShop x = laid(7, 2, 3);
        x.lot(0, 0, 0, 100);
        Due.is("18: neither CUT nor PAINTED", x.broken(0), NO);
        Due.is("18: below 0", x.broken(-1), BAD);
        x.paint();
        Due.is("18: not CUT", x.broken(0), NO);
        Due.is("18: not CUT, any SHEET", x.broken(Integer.MAX_VALUE), NO);
        x.scrape();
        x.cut(1, 4);
        Due.is("18: not PAINTED", x.broken(3), NO);
        Due.is("18: BAD ahead of NO", x.broken(4), BAD);
        x.paint();
        int[] wrong = {-1, 4, Integer.MAX_VALUE, Integer.MIN_VALUE};
        for (int s : wrong) {
            Due.is("18: broken(" + s + ")", x.broken(s), BAD);
        }
        Due.is("18: nothing was taken", x.left(0), 86);
    }

    private static void cratesOf(MosaicShop x, int m, int... due) {
        int most = NONE;
        for (int s = 0; s < due.length; s++) {
            Due.is("20: crate(" + m + ", " + s + ")", x.crate(m, s), due[s]);
            most = Math.max(most, due[s]);
        }
        Due.is("19: crates(" + m + ")", x.crates(m), most + 1);
    }

    private static void cratesByWeight() {
        MosaicShop x = twoFields();
        eachSheet("19: WEIGHT", x, 1, 3, 4, 5, 2);
        cratesOf(x, 1, 0, 1, 2, 3);
        cratesOf(x, 2, 0, 1, 2, 3);
        cratesOf(x, 4, 0, 1, 2, 3);
        cratesOf(x, 6, 0, 1, 2, 3);
        cratesOf(x, 7, 0, 0, 1, 1);
        cratesOf(x, 9, 0, 0, 1, 1);
        cratesOf(x, 12, 0, 0, 0, 1);
        cratesOf(x, 14, 0, 0, 0, 0);
        cratesOf(x, 240, 0, 0, 0, 0);
        x = laid(7, 1, 3);
        x.cut(1, 1);
        eachSheet("19: WEIGHT", x, 1, 0, 3, 0, 0, 3, 0, 1);
        cratesOf(x, 3, NONE, 0, NONE, NONE, 1, NONE, 2);
        cratesOf(x, 4, NONE, 0, NONE, NONE, 1, NONE, 1);
        cratesOf(x, 7, NONE, 0, NONE, NONE, 0, NONE, 0);
        x = laid(24, 10, 3);
        x.cut(10, 24);
        cratesOf(x, 239, 0);
        cratesOf(x, 240, 0);
    }

    private static void cratesRefuse() {
        MosaicShop x = laid(7, 2, 3);
        Due.is("19: not CUT", x.crates(1), NO);
        Due.is("19: BAD ahead of NO", x.crates(0), BAD);
        Due.is("20: not CUT", x.crate(1, 0), NO);
        Due.is("20: not CUT, any SHEET", x.crate(240, 240), NO);
        Due.is("20: not CUT, below 0", x.crate(1, -1), BAD);
        Due.is("20: not CUT, m", x.crate(241, 0), BAD);
        x.cut(1, 4);
        int[] wrong = {0, 241, -1, Integer.MAX_VALUE, Integer.MIN_VALUE};
        for (int m : wrong) {
            Due.is("19: crates(" + m + ")", x.crates(m), BAD);
            Due.is("20: crate(" + m + ", 0)", x.crate(m, 0), BAD);
        }
        Due.is("20: crate(5, 4)", x.crate(5, 4), BAD);
        Due.is("20: crate(5, -1)", x.crate(5, -1), BAD);
        Due.is("20: crate(5, MAX)", x.crate(5, Integer.MAX_VALUE), BAD);
    }
}
