import java.math.BigInteger;

/** The sentences of the document that name an edge of HANDS (4, promises 21 to 25), each ahead of its own test. */
public final class HandEdgesTest {
    private static final int NONE = MosaicShop.NONE, BAD = MosaicShop.BAD, NO = MosaicShop.NO, FULL = MosaicShop.FULL;

    public static void main(String[] args) {
        handsZeroToThree();
        skillOneToTwenty();
        daysRoundedUp();
        nineAtMost();
        nineWithWeight();
        headsToMastersAlone();
        aHeadOnOnePlace();
        aHeadWithoutPlaces();
        theGreatestSumIsLeast();
        ofLikeOnesTheLeastHand();
        daysNotCut();
        daysWithoutHands();
        daysWithoutAMaster();
        daysAboveNine();
        dealtWithoutWeight();
        dealtRefused();
        countWhat();
        countWhenNotSoFar();
        countAtMost();
        digestOfANewObject();
        digestWrapsAround();
        Due.end("HandEdgesTest");
    }

    // "HANDS 0 .. 3, as they come", "FULL: 4."
    private static void handsZeroToThree() {
        MosaicShop x = new MosaicShop();
        for (int hand = 0; hand < 4; hand++) {
            Due.is("HANDS", x.count(6), hand);
            Due.is("hand " + hand, x.hand(20 - hand, hand == 3), hand);
        }
        Due.is("a fifth", x.hand(1, true), FULL);
        Due.is("once more", x.hand(20, false), FULL);
        Due.is("BAD ahead of FULL", x.hand(21, true), BAD);
        Due.is("BAD ahead of FULL", x.hand(0, true), BAD);
        Due.is("HANDS", x.count(6), 4);
    }

    // "do SKILL PLACES a day (1 .. 20)"
    private static void skillOneToTwenty() {
        for (int skill = -1; skill <= 22; skill++) {
            boolean is = skill >= 1 && skill <= 20;
            MosaicShop x = Shops.row(24, 24);
            Due.is("hand(" + skill + ")", x.hand(skill, false), is ? 0 : BAD);
            Due.is("HANDS", x.count(6), is ? 1 : 0);
            Due.is("days()", x.days(), is ? (24 + skill - 1) / skill : NO);
        }
        MosaicShop x = new MosaicShop();
        Due.is("hand(MAX)", x.hand(Integer.MAX_VALUE, true), BAD);
        Due.is("hand(MIN)", x.hand(Integer.MIN_VALUE, true), BAD);
        Due.is("HANDS", x.count(6), 0);
    }

    // "DAYS of a SHEET for a HAND: its WEIGHT by SKILL, rounded up."
    private static void daysRoundedUp() {
        int[][] due = {{20, 20, 1}, {20, 19, 2}, {20, 10, 2}, {20, 9, 3}, {20, 1, 20}, {21, 20, 2}, {1, 20, 1}, {1, 1, 1},
            {19, 20, 1}};
        for (int[] a : due) {
            MosaicShop x = Shops.row(a[0], 24);
            x.hand(a[1], false);
            Due.is(a[0] + " by " + a[1], x.days(), a[2]);
        }
        MosaicShop x = Shops.row(10, 5);
        x.hand(2, false);
        Due.is("each SHEET rounded up by itself", x.days(), 6);
        x = Shops.laid(24, 10, 3);
        x.cut(10, 24);
        x.hand(1, true);
        Due.is("the most DAYS", x.days(), 240);
    }

    // "(only if they are 9 at most)", "above 9 SHEETS"
    private static void nineAtMost() {
        for (int w = 8; w <= 11; w++) {
            MosaicShop x = Shops.row(w, 1);
            x.hand(1, true);
            Due.is("days() of " + w, x.days(), w <= 9 ? w : NO);
            Due.is("dealt(0) of " + w, x.dealt(0), w <= 9 ? 0 : NO);
            Due.is("dealt of the last of " + w, x.dealt(w - 1), w <= 9 ? 0 : NO);
        }
        MosaicShop x = Shops.row(9, 1);
        for (int hand = 0; hand < 4; hand++) {
            x.hand(1, hand == 1);
        }
        Due.is("nine for four", x.days(), 3);
        Due.is("their HANDS", Shops.dealt(x), "0 0 0 1 1 1 2 2 2");
    }

    // "SHEETS with WEIGHT above 0"
    private static void nineWithWeight() {
        MosaicShop x = Shops.laid(18, 1, 2);
        Due.is("18 SHEETS", x.cut(1, 1), 18);
        x.hand(2, false);
        Due.is("9 with WEIGHT", x.days(), 9);
        Due.is("their HANDS", Shops.dealt(x), "-1 0 -1 0 -1 0 -1 0 -1 0 -1 0 -1 0 -1 0 -1 0");
        x = Shops.laid(20, 1, 2);
        Due.is("20 SHEETS", x.cut(1, 1), 20);
        x.hand(2, false);
        Due.is("10 with WEIGHT", x.days(), NO);
        Due.is("none is dealt", x.dealt(1), NO);
    }

    // "those with a CUBE of a HEAD to MASTERS alone"
    private static void headsToMastersAlone() {
        MosaicShop x = Shops.row(6, 3);
        x.hand(20, false);
        x.hand(1, true);
        Due.is("no HEAD", Shops.dealt(x), "0 0");
        x.mark(0, 1, false, true);
        Due.is("HEADS", x.days(), 6);
        Due.is("to the slow MASTER", Shops.dealt(x), "1 1");
        x.hand(2, true);
        Due.is("two MASTERS", x.days(), 3);
        Due.is("of like ones the least HAND", Shops.dealt(x), "1 2");
        x.mark(0, 1, false, false);
        Due.is("HEADS no more", Shops.dealt(x), "0 0");
        x = Shops.row(6, 3);
        x.mark(0, 1, false, true);
        x.hand(3, true);
        Due.is("the first HAND is a MASTER", x.days(), 2);
        x.hand(20, false);
        Due.is("a HAND that is none does not help", Shops.dealt(x), "0 0");
    }

    private static void aHeadOnOnePlace() {
        for (int place = 0; place < 9; place++) {
            MosaicShop x = Shops.wall(9, 1, 1);
            x.draw(place, 0, place, 0, 7);
            x.mark(7, 1, false, true);
            x.lay();
            x.cut(1, 3);
            x.hand(20, false);
            Due.is("a HEAD at " + place + " without a MASTER", x.days(), NO);
            x.hand(1, true);
            Due.is("with a MASTER", x.days(), 3);
            Due.is("its SHEET", x.dealt(place / 3), 1);
            Due.is("the SHEET behind it", x.dealt((place / 3 + 1) % 3), 0);
            Due.is("the SHEET behind that", x.dealt((place / 3 + 2) % 3), 0);
        }
    }

    private static void aHeadWithoutPlaces() {
        MosaicShop x = Shops.row(6, 3);
        x.mark(7, 3, false, true);
        x.hand(3, false);
        Due.is("needs no MASTER", x.days(), 2);
    }

    // "so that the greatest sum of DAYS of a HAND is least"
    private static void theGreatestSumIsLeast() {
        MosaicShop x = Shops.row(24, 7);
        Due.is("WEIGHT", Shops.sheets(x, 1), "7 7 7 3");
        x.hand(2, false);
        x.hand(1, false);
        Due.is("days()", x.days(), 10);
        Due.is("their HANDS", Shops.dealt(x), "0 0 1 0");
        x = Shops.row(10, 5);
        x.hand(1, false);
        x.hand(20, false);
        Due.is("all to one is best", x.days(), 2);
        Due.is("their HANDS", Shops.dealt(x), "1 1");
    }

    // "of like ones that in which the first SHEET has the least HAND, then the second, and so on"
    private static void ofLikeOnesTheLeastHand() {
        MosaicShop x = Shops.row(6, 3);
        x.hand(3, false);
        Due.is("one HAND", Shops.dealt(x), "0 0");
        x.hand(3, false);
        Due.is("two like HANDS", Shops.dealt(x), "0 1");
        x.hand(20, false);
        x.hand(20, false);
        Due.is("quicker ones that are no sooner done", Shops.dealt(x), "0 1");
        x = Shops.row(9, 3);
        x.hand(3, false);
        x.hand(3, false);
        Due.is("three SHEETS for two", Shops.dealt(x), "0 0 1");
        x = Shops.row(9, 3);
        x.hand(1, false);
        x.hand(20, false);
        Due.is("the slow HAND ahead, where it is no later", Shops.dealt(x), "0 1 1");
    }

    // "NO: not CUT"
    private static void daysNotCut() {
        MosaicShop x = new MosaicShop();
        x.hand(1, true);
        Due.is("not LAID", x.days(), NO);
        x.lay();
        Due.is("not CUT", x.days(), NO);
        x.cut(1, 1);
        Due.is("CUT", x.days(), 1);
        x.lay();
        Due.is("CUT no more", x.days(), NO);
        Due.is("nor dealt", x.dealt(0), NO);
    }

    // "no HANDS"
    private static void daysWithoutHands() {
        MosaicShop x = Shops.row(3, 3);
        Due.is("no HANDS", x.days(), NO);
        Due.is("not dealt", x.dealt(0), NO);
        x.hand(3, false);
        Due.is("a HAND", x.days(), 1);
        Due.is("dealt", x.dealt(0), 0);
    }

    // "a HEAD without a MASTER"
    private static void daysWithoutAMaster() {
        MosaicShop x = Shops.row(3, 3);
        x.hand(3, false);
        x.mark(0, 3, false, true);
        Due.is("no MASTER", x.days(), NO);
        Due.is("not dealt", x.dealt(0), NO);
        for (int hand = 1; hand < 3; hand++) {
            x.hand(20, false);
            Due.is("no MASTER still", x.days(), NO);
        }
        x.hand(1, true);
        Due.is("the last HAND is a MASTER", x.days(), 3);
        Due.is("dealt", x.dealt(0), 3);
    }

    // "or above 9 SHEETS with WEIGHT"
    private static void daysAboveNine() {
        MosaicShop x = Shops.row(10, 1);
        x.hand(1, true);
        Due.is("ten", x.days(), NO);
        x.cut(1, 2);
        Due.is("five", x.days(), 10);
        x = Shops.laid(24, 10, 3);
        x.hand(20, true);
        x.cut(1, 24);
        Due.is("ten rows", x.days(), NO);
        x.cut(1, 1);
        Due.is("as many as may be", x.days(), NO);
        x.cut(10, 24);
        Due.is("one", x.days(), 12);
    }

    // "NONE: it has no WEIGHT."
    private static void dealtWithoutWeight() {
        MosaicShop x = Shops.laid(3, 1, 3);
        x.cut(1, 1);
        Due.is("NO ahead of NONE", x.dealt(0), NO);
        x.hand(1, false);
        Due.is("HANDS", Shops.dealt(x), "-1 0 -1");
    }

    // "The HAND of a SHEET in THE DEALING. .. BAD; NO as days()."
    private static void dealtRefused() {
        MosaicShop x = Shops.row(6, 3);
        Due.is("NO", x.dealt(1), NO);
        Due.is("BAD ahead of NO", x.dealt(2), BAD);
        Due.is("BAD ahead of NO", x.dealt(-1), BAD);
        x.hand(1, false);
        Due.is("the last", x.dealt(1), 0);
        int[] wrong = {-1, 2, Integer.MAX_VALUE, Integer.MIN_VALUE};
        for (int s : wrong) {
            Due.is("dealt(" + s + ")", x.dealt(s), BAD);
        }
    }

    // "How many: 0 .. 8. BAD."
    private static void countWhat() {
        MosaicShop x = Shops.row(3, 1);
        int[] wrong = {-1, 9, Integer.MAX_VALUE, Integer.MIN_VALUE};
        for (int what : wrong) {
            Due.is("count(" + what + ")", x.count(what), BAD);
        }
        Due.is("count(0)", x.count(0), 3);
        Due.is("count(8)", x.count(8), 0);
    }

    // "2 CUBES (0: not LAID), 3 BARE ones (NO: not PAINTED), .. 5 SHEETS (0: not CUT), .. 8 LEAF in all (NO: not LAID)"
    private static void countWhenNotSoFar() {
        MosaicShop x = Shops.wall(3, 1, 3);
        x.mark(0, 3, true, false);
        Due.is("CUBES, not LAID", x.count(2), 0);
        Due.is("LEAF, not LAID", x.count(8), NO);
        Due.is("BARE ones, not LAID", x.count(3), NO);
        Due.is("SHEETS, not LAID", x.count(5), 0);
        x.lay();
        Due.is("CUBES, LAID", x.count(2), 1);
        Due.is("LEAF, LAID", x.count(8), 3);
        Due.is("BARE ones, not PAINTED", x.count(3), NO);
        Due.is("SHEETS, not CUT", x.count(5), 0);
        x.paint();
        Due.is("BARE ones, PAINTED", x.count(3), 1);
        x.cut(1, 2);
        Due.is("SHEETS, CUT", x.count(5), 2);
        x.wall(3, 1);
        Due.is("LEAF, not LAID again", x.count(8), NO);
    }

    // the same, where each is as great as may be
    private static void countAtMost() {
        MosaicShop x = Shops.wall(24, 10, 3);
        x.mark(0, 3, true, false);
        for (int y = 1; y < 10; y += 2) {
            x.draw(0, y, 23, y, 1);
            for (int place = 0; place < 24; place += 2) {
                x.draw(place, y, place, y, 0);
            }
        }
        x.mark(0, 1, true, false);
        x.mark(1, 1, true, false);
        Due.is("240 CUBES", x.lay(), 240);
        x.paint();
        x.cut(1, 1);
        Shops.lots(x, 1000, 1000, 1000, 1000, 1000, 1000, 1000, 1000, 1000, 1000);
        for (int hand = 0; hand < 4; hand++) {
            x.hand(20, true);
        }
        int[] due = {24, 10, 240, 240, 10, 240, 4, 10000, 240};
        for (int what = 0; what < due.length; what++) {
            Due.is("count(" + what + ")", x.count(what), due[what]);
        }
        Due.is("the last CUBE", x.cube(239, 5), 239);
        Due.is("its left border", x.at(23, 9), 239);
    }

    // "h = 149; then h = 31 h + v for each v": no CUBES, no LOTS
    private static void digestOfANewObject() {
        long h = 149;
        int[] parts = {1, 1, 0, NO, 0, 0, 0, 0, NO, 0};
        for (int part : parts) {
            h = 31 * h + part;
        }
        Due.is("digest()", new MosaicShop().digest(), h);
    }

    // the same, where h runs over a long's end many times
    private static void digestWrapsAround() {
        MosaicShop x = Shops.wall(9, 4, 3);
        x.draw(3, 1, 5, 2, 7);
        x.lay();
        Shops.lots(x, 1000, 12);
        x.paint();
        x.cut(2, 4);
        x.hand(5, true);
        BigInteger h = BigInteger.valueOf(149);
        for (int what = 0; what <= 8; what++) {
            h = next(h, x.count(what));
        }
        for (int place = 0; place < 36; place++) {
            h = next(h, x.field(place % 9, place / 9));
        }
        for (int i = 0; i < x.count(2); i++) {
            for (int what = 0; what <= 6; what++) {
                h = next(h, x.cube(i, what));
            }
        }
        for (int lot = 0; lot < 2; lot++) {
            h = next(h, x.left(lot));
        }
        Due.is("beyond a long", h.bitLength() > 64 ? 1 : 0, 1);
        Due.is("digest()", x.digest(), h.longValue());
        Due.is("nothing of it stays for the next", x.digest(), h.longValue());
        Due.is("CUBES", x.count(2) > 0 ? NONE : 0, NONE);
    }

    private static BigInteger next(BigInteger h, int part) {
        return h.multiply(BigInteger.valueOf(31)).add(BigInteger.valueOf(part));
    }
}
