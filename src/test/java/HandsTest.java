/** Promises 21 to 23: hand, days, dealt. */
public final class HandsTest {
    private static final int NONE = MosaicShop.NONE, BAD = MosaicShop.BAD, NO = MosaicShop.NO, FULL = MosaicShop.FULL;

    public static void main(String[] args) {
        handsAsTheyCome();
        handRefuses();
        daysRoundedUpBySheet();
        theLastIsDoneSoon();
        ofLikeOnesTheFirst();
        headsToMasters();
        theMasterFirst();
        headsMayChange();
        nineSheetsAtMost();
        daysRefuses();
        dealtRefuses();
        Due.end("HandsTest");
    }

    /** A row of single CUBES, CUT by b PLACES. */
    private static MosaicShop row(int w, int b) {
        MosaicShop x = new MosaicShop();
        x.wall(w, 1);
        for (int field = 0; field < 8; field++) {
            x.mark(field, 1, false, false);
        }
        x.lay();
        x.cut(1, b);
        return x;
    }

    private static void dealing(String call, MosaicShop x, int days, int... hands) {
        Due.is("22: days() " + call, x.days(), days);
        for (int s = 0; s < hands.length; s++) {
            Due.is("23: dealt(" + s + ") " + call, x.dealt(s), hands[s]);
        }
    }

    private static void handsAsTheyCome() {
        MosaicShop x = new MosaicShop();
        Due.is("21: skill 1", x.hand(1, false), 0);
        Due.is("21: skill 20", x.hand(20, true), 1);
        Due.is("21: skill 0", x.hand(0, true), BAD);
        Due.is("21: skill 7", x.hand(7, false), 2);
        Due.is("21: HANDS", x.count(6), 3);
        Due.is("21: a fourth", x.hand(7, false), 3);
        Due.is("21: a fifth", x.hand(7, false), FULL);
        Due.is("21: BAD ahead of FULL", x.hand(21, false), BAD);
        Due.is("21: HANDS at most", x.count(6), 4);
    }

    private static void handRefuses() {
        MosaicShop x = new MosaicShop();
        int[] wrong = {0, 21, -1, Integer.MAX_VALUE, Integer.MIN_VALUE};
        for (int skill : wrong) {
            Due.is("21: hand(" + skill + ")", x.hand(skill, false), BAD);
        }
        Due.is("21: none came", x.count(6), 0);
    }

    private static void daysRoundedUpBySheet() {
        MosaicShop x = row(10, 5);
        x.hand(2, false);
        dealing("twice 5 by 2, each rounded up", x, 6, 0, 0);
        x = row(10, 5);
        x.hand(5, false);
        dealing("twice 5 by 5", x, 2, 0, 0);
        x = row(10, 5);
        x.hand(6, false);
        dealing("twice 5 by 6", x, 2, 0, 0);
        x = row(24, 24);
        x.hand(1, false);
        dealing("24 by 1", x, 24, 0);
    }

    private static void theLastIsDoneSoon() {
        MosaicShop x = row(10, 5);
        x.hand(2, false);
        x.hand(5, false);
        dealing("both to the quicker one", x, 2, 1, 1);
        x.hand(20, false);
        dealing("one each", x, 1, 1, 2);
        x = row(24, 7);
        x.hand(1, false);
        x.hand(1, false);
        dealing("7, 7, 7 and 3", x, 14, 0, 0, 1, 1);
        x = row(24, 7);
        x.hand(1, false);
        x.hand(2, false);
        dealing("7, 7, 7 and 3 by 1 and 2", x, 10, 0, 1, 1, 0);
        x = row(24, 7);
        x.hand(2, false);
        x.hand(1, false);
        dealing("7, 7, 7 and 3 by 2 and 1", x, 10, 0, 0, 1, 0);
    }

    private static void ofLikeOnesTheFirst() {
        MosaicShop x = row(9, 3);
        x.hand(3, false);
        x.hand(3, false);
        dealing("of like HANDS the least", x, 2, 0, 0, 1);
        x.hand(3, false);
        dealing("of three", x, 1, 0, 1, 2);
        x.hand(3, false);
        dealing("of four", x, 1, 0, 1, 2);
        x = row(9, 3);
        x.hand(1, false);
        x.hand(20, false);
        dealing("the slow one first, where it is as good", x, 3, 0, 1, 1);
    }

    private static void headsToMasters() {
        MosaicShop x = headInTheMiddle();
        x.hand(20, false);
        dealing("a HEAD without a MASTER", x, NO, NO, NO, NO);
        x.hand(1, true);
        dealing("the HEAD to the MASTER", x, 3, 0, 1, 0);
        x.hand(2, true);
        dealing("to the quicker MASTER", x, 2, 0, 2, 0);
        x = headInTheMiddle();
        x.hand(2, false);
        x.hand(3, true);
        dealing("the MASTER takes others too", x, 2, 0, 1, 1);
    }

    private static void theMasterFirst() {
        MosaicShop x = headInTheMiddle();
        x.hand(1, true);
        x.hand(20, false);
        dealing("the HEAD to the MASTER, who is slow", x, 3, 1, 0, 1);
    }

    /** Three SHEETS of 3 PLACES, with a HEAD on the second. */
    private static MosaicShop headInTheMiddle() {
        MosaicShop x = new MosaicShop();
        x.wall(9, 1);
        x.draw(4, 0, 4, 0, 1);
        x.mark(0, 1, false, false);
        x.mark(1, 1, false, true);
        x.lay();
        x.cut(1, 3);
        return x;
    }

    private static void headsMayChange() {
        MosaicShop x = row(6, 3);
        x.hand(3, false);
        dealing("no HEAD", x, 2, 0, 0);
        x.mark(7, 1, false, true);
        dealing("a HEAD without PLACES", x, 2, 0, 0);
        x.mark(0, 1, false, true);
        dealing("HEADS without a MASTER", x, NO, NO, NO);
        x.hand(1, true);
        dealing("all to the MASTER", x, 6, 1, 1);
        x.mark(0, 1, true, false);
        dealing("HEADS no more", x, 2, 0, 0);
    }

    private static void nineSheetsAtMost() {
        MosaicShop x = row(9, 1);
        x.hand(1, false);
        x.hand(1, false);
        x.hand(1, false);
        x.hand(1, true);
        dealing("nine", x, 3, 0, 0, 0, 1, 1, 1, 2, 2, 2);
        x = row(10, 1);
        x.hand(1, false);
        dealing("ten", x, NO, NO, NO);
        x = new MosaicShop();
        x.wall(24, 1);
        x.lay();
        x.cut(1, 1);
        x.hand(3, false);
        Due.is("16: 24 SHEETS", x.count(5), 24);
        Due.is("22: 8 of them with WEIGHT", x.days(), 8);
        Due.is("23: one without", x.dealt(0), NONE);
        Due.is("23: one with", x.dealt(1), 0);
    }

    private static void daysRefuses() {
        MosaicShop x = new MosaicShop();
        Due.is("22: nothing", x.days(), NO);
        x.hand(1, true);
        Due.is("22: not LAID", x.days(), NO);
        x.lay();
        Due.is("22: not CUT", x.days(), NO);
        x.cut(1, 1);
        Due.is("22: CUT", x.days(), 1);
        x.lay();
        Due.is("22: LAID anew", x.days(), NO);
        x = row(3, 3);
        Due.is("22: no HANDS", x.days(), NO);
    }

    private static void dealtRefuses() {
        MosaicShop x = new MosaicShop();
        x.wall(3, 1);
        x.lay();
        Due.is("23: not CUT", x.dealt(0), NO);
        Due.is("23: not CUT, any SHEET", x.dealt(Integer.MAX_VALUE), NO);
        Due.is("23: not CUT, below 0", x.dealt(-1), BAD);
        x.cut(1, 1);
        Due.is("23: NO ahead of NONE", x.dealt(0), NO);
        Due.is("23: BAD ahead of NO", x.dealt(3), BAD);
        x.hand(2, false);
        dealing("without WEIGHT", x, 2, NONE, 0, NONE);
        int[] wrong = {-1, 3, Integer.MAX_VALUE, Integer.MIN_VALUE};
        for (int s : wrong) {
            Due.is("23: dealt(" + s + ")", x.dealt(s), BAD);
        }
    }
}
