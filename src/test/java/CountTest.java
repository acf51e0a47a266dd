/** Promises 24 and 25: count, digest; and the constants. */
public final class CountTest {
    private static final int NONE = MosaicShop.NONE, BAD = MosaicShop.BAD, NO = MosaicShop.NO, FULL = MosaicShop.FULL;

    public static void main(String[] args) {
        constants();
        countRefuses();
        countsAsTheyGrow();
        leafInAll();
        digestOfCountsAndParts();
        digestOfEachChange();
        Due.end("CountTest");
    }

    private static void constants() {
        Due.is("NONE", NONE, -1);
        Due.is("BAD", BAD, -2);
        Due.is("NO", NO, -3);
        Due.is("FULL", FULL, -4);
    }

    private static void counts(String call, MosaicShop x, int... due) {
        for (int what = 0; what < due.length; what++) {
            Due.is("24: count(" + what + ") " + call, x.count(what), due[what]);
        }
        Due.is("25: digest() " + call, x.digest(), digestOf(x));
    }

    private static void countRefuses() {
        MosaicShop x = new MosaicShop();
        int[] wrong = {-1, 9, Integer.MAX_VALUE, Integer.MIN_VALUE};
        for (int what : wrong) {
            Due.is("24: count(" + what + ")", x.count(what), BAD);
        }
    }

    private static void countsAsTheyGrow() {
        MosaicShop x = new MosaicShop();
        x.wall(7, 2);
        counts("of a WALL", x, 7, 2, 0, NO, 0, 0, 0, 0, NO);
        x.mark(0, 3, true, false);
        counts("of a GOLD one", x, 7, 2, 0, NO, 0, 0, 0, 0, NO);
        x.lay();
        counts("when LAID", x, 7, 2, 6, NO, 0, 0, 0, 0, 14);
        x.lot(0, 0, 0, 9);
        x.lot(0, 0, 0, 1);
        counts("with LOTS", x, 7, 2, 6, NO, 2, 0, 0, 10, 14);
        x.paint();
        counts("when PAINTED", x, 7, 2, 6, 2, 2, 0, 0, 1, 14);
        x.cut(1, 4);
        counts("when CUT", x, 7, 2, 6, 2, 2, 4, 0, 1, 14);
        x.hand(1, true);
        counts("with a HAND", x, 7, 2, 6, 2, 2, 4, 1, 1, 14);
        x.scrape();
        counts("when scraped", x, 7, 2, 6, NO, 2, 4, 1, 10, 14);
        x.draw(0, 0, 0, 0, 1);
        counts("when drawn", x, 7, 2, 0, NO, 2, 0, 1, 10, NO);
        for (int lot = 2; lot < 10; lot++) {
            x.lot(0, 0, 0, 1000);
        }
        counts("with all LOTS", x, 7, 2, 0, NO, 10, 0, 1, 8010, NO);
    }

    private static void leafInAll() {
        MosaicShop x = new MosaicShop();
        x.wall(24, 10);
        x.draw(0, 0, 4, 0, 1);
        x.draw(6, 1, 8, 9, 7);
        x.lay();
        Due.is("24: none is GOLD", x.count(8), 0);
        x.mark(1, 3, true, false);
        Due.is("24: 5 PLACES", x.count(8), 5);
        x.mark(7, 1, true, true);
        Due.is("24: and 27", x.count(8), 32);
        x.mark(5, 3, true, false);
        Due.is("24: and none", x.count(8), 32);
        x.mark(0, 3, true, false);
        Due.is("24: all", x.count(8), 240);
        x.mark(1, 3, false, true);
        Due.is("24: but 5", x.count(8), 235);
    }

    /** As the document tells it, from what the other calls answer. */
    private static long digestOf(MosaicShop x) {
        long h = 149;
        for (int what = 0; what <= 8; what++) {
            h = 31 * h + x.count(what);
        }
        for (int place = 0; place < x.count(0) * x.count(1); place++) {
            h = 31 * h + x.field(place % x.count(0), place / x.count(0));
        }
        for (int i = 0; i < x.count(2); i++) {
            for (int what = 0; what <= 6; what++) {
                h = 31 * h + x.cube(i, what);
            }
        }
        for (int lot = 0; lot < x.count(4); lot++) {
            h = 31 * h + x.left(lot);
        }
        return h;
    }

    private static void digestOfCountsAndParts() {
        MosaicShop x = new MosaicShop();
        x.wall(3, 1);
        x.draw(2, 0, 2, 0, 4);
        x.mark(4, 2, true, false);
        x.lot(0, 0, 0, 5);
        x.lay();
        x.paint();
        x.cut(1, 2);
        x.hand(3, true);
        long[] parts = {3, 1, 2, 0, 1, 2, 1, 2, 1, 0, 0, 4, 0, 0, 2, 0, 0, 0, 0, 0, 2, 1, 4, 0, 1, 0, 2};
        long h = 149;
        for (long part : parts) {
            h = 31 * h + part;
        }
        Due.is("25: digest()", x.digest(), h);
        Due.is("25: digest() again", x.digest(), h);
    }

    private static void digestOfEachChange() {
        MosaicShop x = new MosaicShop();
        x.wall(6, 2);
        long[] seen = new long[8];
        seen[0] = x.digest();
        x.draw(1, 0, 1, 0, 1);
        seen[1] = x.digest();
        x.lay();
        seen[2] = x.digest();
        x.lot(0, 0, 0, 40);
        seen[3] = x.digest();
        x.paint();
        seen[4] = x.digest();
        x.cut(1, 3);
        seen[5] = x.digest();
        x.hand(1, true);
        seen[6] = x.digest();
        x.broken(0);
        seen[7] = x.digest();
        for (int i = 0; i < seen.length; i++) {
            for (int j = 0; j < i; j++) {
                Due.is("25: digest " + i + " is that of " + j, seen[i] == seen[j] ? 1 : 0, 0);
            }
        }
    }
}
