/** Promises 7 to 9: lay, at, cube. */
public final class LayTest {
    private static final int NONE = MosaicShop.NONE, BAD = MosaicShop.BAD, NO = MosaicShop.NO;

    public static void main(String[] args) {
        fewestThenWidest();
        jointsOfTheRowAheadAlone();
        bordersOfStripsAreNoJoints();
        stuckAtItsStrip();
        stuckIsNotLaid();
        layAnewForgetsPaintAndCut();
        cubeAtAPlace();
        partsOfACube();
        Due.end("LayTest");
    }

    private static MosaicShop wall(int w, int h, int longest) {
        MosaicShop x = new MosaicShop();
        x.wall(w, h);
        x.mark(0, longest, false, false);
        return x;
    }

    /** Each row of the WALL as its CUBES' PLACES, one after another, rows parted by a blank. */
    private static String widths(MosaicShop x) {
        StringBuilder text = new StringBuilder();
        for (int i = 0; i < x.count(2); i++) {
            if (i > 0 && x.cube(i, 0) != x.cube(i - 1, 0)) {
                text.append(' ');
            }
            text.append(x.cube(i, 2));
        }
        return text.toString();
    }

    private static void laid(String due, MosaicShop x) {
        int many = due.replace(" ", "").length();
        Due.is("7: lay() of " + due, x.lay(), many);
        String got = widths(x);
        Due.is("7: laid " + got + " for " + due, got.equals(due) ? 1 : 0, 1);
    }

    private static void fewestThenWidest() {
        laid("1", wall(1, 1, 3));
        laid("3", wall(3, 1, 3));
        laid("31 22 31", wall(4, 3, 3));
        laid("32 23 32 23", wall(5, 4, 3));
        laid("331 232 331", wall(7, 3, 3));
        laid("22221 12222 22221", wall(9, 3, 2));
        laid("33333333 233333331", wall(24, 2, 3));
        laid("1111", wall(4, 1, 1));
        laid("1 1 1 1 1 1 1 1 1 1", wall(1, 10, 1));
        laid("2 2 2", wall(2, 3, 2));
        laid("21 12 21", wall(3, 3, 2));
    }

    private static void jointsOfTheRowAheadAlone() {
        MosaicShop x = wall(6, 3, 3);
        laid("33 231 33", x);
        Due.is("7: row 2 has the joint of row 0", x.cube(6, 1), 3);
        x = wall(2, 2, 1);
        x.draw(0, 1, 1, 1, 1);
        laid("11 2", x);
        x = wall(3, 3, 1);
        x.draw(0, 1, 2, 1, 1);
        laid("111 3 111", x);
    }

    private static void bordersOfStripsAreNoJoints() {
        MosaicShop x = wall(4, 2, 2);
        x.draw(2, 0, 3, 0, 1);
        laid("22 22", x);
        x = wall(4, 2, 2);
        x.draw(2, 1, 3, 1, 1);
        laid("22 22", x);
        x = wall(6, 1, 3);
        x.draw(2, 0, 2, 0, 3);
        laid("213", x);
        x = wall(3, 1, 3);
        x.draw(1, 0, 1, 0, 3);
        laid("111", x);
    }

    private static void stuckAtItsStrip() {
        MosaicShop x = wall(5, 3, 3);
        x.mark(1, 1, false, false);
        x.draw(2, 0, 4, 2, 1);
        Due.is("7: STUCK at 2, 1", x.lay(), -1000 - 24 - 2);
        x.draw(2, 1, 4, 1, 2);
        x.draw(1, 1, 1, 1, 1);
        Due.is("7: LAID with another FIELD between", x.lay(), 4 + 3 + 4);
        x = wall(24, 10, 3);
        x.mark(1, 1, false, false);
        for (int left = 3; left < 24; left += 6) {
            x.draw(left, 0, left + 2, 9, 2);
        }
        x.draw(22, 8, 23, 9, 1);
        Due.is("7: STUCK at 22, 9", x.lay(), -1000 - 24 * 9 - 22);
        x = wall(3, 2, 1);
        Due.is("7: STUCK at 0, 1", x.lay(), -1024);
        x = wall(4, 2, 2);
        x.draw(1, 0, 3, 0, 1);
        x.mark(1, 1, false, false);
        Due.is("7: STUCK for joints 2 and 3", x.lay(), -1024);
    }

    private static void stuckIsNotLaid() {
        MosaicShop x = wall(4, 2, 3);
        x.lot(0, 0, 0, 100);
        x.lay();
        x.paint();
        x.cut(1, 2);
        x.mark(0, 1, false, false);
        Due.is("7: STUCK", x.lay(), -1024);
        Due.is("7: not LAID", x.count(2), 0);
        Due.is("7: no CUBE", x.cube(0, 0), NONE);
        Due.is("7: at", x.at(0, 0), NONE);
        Due.is("7: not PAINTED", x.count(3), NO);
        Due.is("7: not CUT", x.count(5), 0);
        Due.is("7: LOTS as they are", x.left(0), 92);
        Due.is("7: paint", x.paint(), NO);
        Due.is("7: cut", x.cut(1, 1), NO);
        x.mark(0, 2, false, false);
        Due.is("7: LAID again", x.lay(), 5);
    }

    private static void layAnewForgetsPaintAndCut() {
        MosaicShop x = wall(4, 2, 3);
        x.lot(0, 0, 0, 100);
        x.lay();
        x.paint();
        x.cut(1, 2);
        Due.is("7: LAID anew", x.lay(), 4);
        Due.is("7: not PAINTED then", x.count(3), NO);
        Due.is("7: no LOT", x.cube(0, 4), NONE);
        Due.is("7: not CUT then", x.count(5), 0);
        Due.is("7: no SHEET", x.cube(0, 5), NONE);
        Due.is("7: not TURNED OVER", x.cube(0, 6), NONE);
        Due.is("7: LOTS as they are", x.left(0), 92);
    }

    private static void cubeAtAPlace() {
        MosaicShop x = wall(7, 2, 3);
        Due.is("8: not LAID", x.at(6, 1), NONE);
        Due.is("8: BAD ahead of not LAID", x.at(7, 0), BAD);
        x.lay();
        int[] due = {0, 0, 0, 1, 1, 1, 2, 3, 3, 4, 4, 4, 5, 5};
        for (int p = 0; p < due.length; p++) {
            Due.is("8: at PLACE " + p, x.at(p % 7, p / 7), due[p]);
        }
        int[][] wrong = {{-1, 0}, {7, 0}, {0, -1}, {0, 2}, {Integer.MAX_VALUE, 0}, {0, Integer.MIN_VALUE}};
        for (int[] a : wrong) {
            Due.is("8: at(" + a[0] + ", " + a[1] + ")", x.at(a[0], a[1]), BAD);
        }
    }

    private static void partsOfACube() {
        MosaicShop x = wall(7, 2, 3);
        x.draw(3, 1, 5, 1, 4);
        Due.is("9: not LAID", x.cube(0, 0), NONE);
        Due.is("9: BAD ahead of NONE", x.cube(0, 7), BAD);
        x.lay();
        int[][] due = {{0, 0, 3, 0}, {0, 3, 3, 0}, {0, 6, 1, 0}, {1, 0, 3, 0}, {1, 3, 3, 4}, {1, 6, 1, 0}};
        for (int i = 0; i < due.length; i++) {
            for (int what = 0; what < 4; what++) {
                Due.is("9: cube(" + i + ", " + what + ")", x.cube(i, what), due[i][what]);
            }
            for (int what = 4; what < 7; what++) {
                Due.is("9: cube(" + i + ", " + what + ")", x.cube(i, what), NONE);
            }
        }
        Due.is("9: not so many", x.cube(6, 0), NONE);
        Due.is("9: none below 0", x.cube(-1, 0), NONE);
        Due.is("9: far too many", x.cube(Integer.MAX_VALUE, 6), NONE);
        Due.is("9: what -1", x.cube(0, -1), BAD);
        Due.is("9: what 7", x.cube(0, 7), BAD);
        Due.is("9: what 7, not so many", x.cube(6, 7), BAD);
        x.lot(0, 0, 0, 11);
        x.paint();
        Due.is("9: LOT", x.cube(0, 4), 0);
        Due.is("9: BARE", x.cube(4, 4), NONE);
        x.cut(1, 4);
        Due.is("9: SHEET", x.cube(4, 5), 3);
        Due.is("9: PLACE TURNED OVER", x.cube(4, 6), 1);
        Due.is("9: PLACE TURNED OVER, the last", x.cube(5, 6), 0);
    }
}
