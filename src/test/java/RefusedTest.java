import java.util.ArrayList;
import java.util.List;
import java.util.function.Supplier;

/**
 * "Refused, changing nothing, the first of: BAD -2 a number is not as told (a SHEET, if it is not CUT, only below 0);
 * NO -3 as told; FULL -4." Each call that is refused is made on a shop of each kind; then the shop is to tell what one
 * tells to which the call was not made.
 */
public final class RefusedTest {
    private static final int BAD = MosaicShop.BAD, NO = MosaicShop.NO, FULL = MosaicShop.FULL;
    private static final int MIN = Integer.MIN_VALUE, MAX = Integer.MAX_VALUE;

    private interface Call {
        long on(MosaicShop x);
    }

    private record Refused(String name, Call call, int due) {
    }

    private final String kind;
    private final Supplier<MosaicShop> maker;
    private final List<Refused> calls = new ArrayList<>();

    private RefusedTest(String kind, Supplier<MosaicShop> maker) {
        this.kind = kind;
        this.maker = maker;
        badWall();
        badDraw();
        badPlace();
        badField();
        badCube();
        badLot();
        badCut();
        badSheet();
        badCrate();
        badHand();
    }

    public static void main(String[] args) {
        new RefusedTest("new", MosaicShop::new).notLaid().notPainted().notCut().undealt().run();
        new RefusedTest("drawn", RefusedTest::drawn).notLaid().notPainted().notCut().undealt().run();
        new RefusedTest("STUCK", RefusedTest::stuck).notLaid().notPainted().notCut().undealt().run();
        new RefusedTest("LAID", RefusedTest::laid).notPainted().notCut().undealt().run();
        new RefusedTest("PAINTED", RefusedTest::painted).painted(0).notCut().undealt().run();
        new RefusedTest("scraped", RefusedTest::scraped).notPainted().notCut().undealt().run();
        new RefusedTest("CUT", RefusedTest::cut).notPainted().run();
        new RefusedTest("both", RefusedTest::both).painted(0).above(0, 970).run();
        new RefusedTest("without HANDS", RefusedTest::withoutHands).painted(0).undealt().run();
        new RefusedTest("without a MASTER", RefusedTest::withoutMaster).painted(0).undealt().run();
        new RefusedTest("full", RefusedTest::full).painted(9).undealt().above(9, 1).noRoom().run();
        new RefusedTest("can't be made", RefusedTest::lackingLots).painted(0).lacking().run();
        askingChangesNothing();
        Due.end("RefusedTest");
    }

    private void run() {
        List<Long> due = Telling.of(maker.get());
        for (Refused refused : calls) {
            MosaicShop x = maker.get();
            Due.is(kind + ": " + refused.name, refused.call.on(x), refused.due);
            Due.is(kind + ": " + refused.name + " and once more", refused.call.on(x), refused.due);
            Due.is(kind + ": has changed by " + refused.name, Telling.of(x).equals(due) ? 0 : 1, 0);
        }
    }

    private static void askingChangesNothing() {
        List<Supplier<MosaicShop>> makers = List.of(MosaicShop::new, RefusedTest::drawn, RefusedTest::stuck,
            RefusedTest::laid, RefusedTest::painted, RefusedTest::cut, RefusedTest::both, RefusedTest::full);
        for (Supplier<MosaicShop> maker : makers) {
            MosaicShop x = maker.get();
            List<Long> first = Telling.asked(x);
            Due.is("asking has changed a shop", Telling.asked(x).equals(first) ? 0 : 1, 0);
        }
    }

    // ---- shops of each kind

    /** A WALL of 7 by 2 with three FIELDS, LOTS that are near to one another, a HAND and a MASTER. */
    private static MosaicShop drawn() {
        MosaicShop x = new MosaicShop();
        x.wall(7, 2);
        x.draw(5, 0, 6, 1, 3);
        x.draw(0, 1, 0, 1, 7);
        x.mark(3, 2, true, false);
        x.mark(7, 1, false, true);
        x.colour(3, 100, 100, 100);
        x.colour(7, 0, 200, 0);
        x.lot(100, 101, 100, 30);
        x.lot(0, 0, 0, 12);
        x.lot(0, 190, 0, 3);
        x.hand(2, false);
        x.hand(3, true);
        return x;
    }

    private static MosaicShop stuck() {
        MosaicShop x = drawn();
        x.lay();
        x.mark(0, 1, false, false);
        Due.is("STUCK", x.lay(), -1025);
        return x;
    }

    private static MosaicShop laid() {
        MosaicShop x = drawn();
        x.lay();
        return x;
    }

    private static MosaicShop painted() {
        MosaicShop x = laid();
        x.paint();
        return x;
    }

    private static MosaicShop scraped() {
        MosaicShop x = painted();
        x.scrape();
        return x;
    }

    private static MosaicShop cut() {
        MosaicShop x = laid();
        x.cut(1, 4);
        return x;
    }

    private static MosaicShop both() {
        MosaicShop x = cut();
        x.paint();
        x.more(0, 30);
        return x;
    }

    private static MosaicShop withoutHands() {
        MosaicShop x = Shops.laid(7, 2, 3);
        Shops.lots(x, 20, 5);
        x.paint();
        x.cut(1, 4);
        return x;
    }

    private static MosaicShop withoutMaster() {
        MosaicShop x = withoutHands();
        x.hand(2, false);
        x.hand(20, false);
        x.mark(0, 2, true, true);
        return x;
    }

    /** All as much as may be: PLACES, LOTS, HANDS; SHEETS so many that they are not dealt. */
    private static MosaicShop full() {
        MosaicShop x = Shops.laid(24, 10, 3);
        for (int lot = 0; lot < 10; lot++) {
            x.lot(25 * lot, 9, 9, lot == 9 ? 1000 : 100 * lot);
        }
        for (int hand = 0; hand < 4; hand++) {
            x.hand(1 + 5 * hand, hand > 1);
        }
        x.paint();
        x.cut(4, 7);
        return x;
    }

    /** Of SHEET 0 the first CUBE could be made, the second could not. */
    private static MosaicShop lackingLots() {
        MosaicShop x = Shops.laid(6, 1, 3);
        Shops.lots(x, 6);
        x.hand(3, true);
        x.paint();
        x.more(0, 5);
        x.cut(1, 24);
        return x;
    }

    // ---- BAD, ahead of all others

    private void bad(String name, Call call) {
        calls.add(new Refused(name, call, BAD));
    }

    private void badWall() {
        int[][] wrong = {{0, 1}, {25, 1}, {1, 0}, {1, 11}, {0, 0}, {25, 11}, {-1, 5}, {5, -1}, {MAX, 2}, {2, MAX},
            {MIN, 2}, {2, MIN}};
        for (int[] a : wrong) {
            bad("wall(" + a[0] + ", " + a[1] + ")", x -> x.wall(a[0], a[1]));
        }
    }

    private void badDraw() {
        int w = maker.get().count(0);
        int h = maker.get().count(1);
        int[][] wrong = {{-1, 0, 0, 0, 1}, {0, -1, 0, 0, 1}, {0, 0, w, 0, 1}, {0, 0, 0, h, 1}, {1, 0, 0, 0, 1},
            {0, 1, 0, 0, 1}, {w, 0, w, 0, 1}, {0, h, 0, h, 1}, {0, 0, 0, 0, -1}, {0, 0, w - 1, h - 1, 8},
            {0, 0, MAX, 0, 1}, {0, 0, 0, MAX, 1}, {MIN, 0, 0, 0, 1}, {0, MIN, 0, 0, 1}, {0, 0, 0, 0, MAX},
            {0, 0, 0, 0, MIN}, {0, 0, -1, 0, 1}, {0, 0, 0, -1, 1}};
        for (int[] a : wrong) {
            bad("draw(" + a[0] + ", " + a[1] + ", " + a[2] + ", " + a[3] + ", " + a[4] + ")",
                x -> x.draw(a[0], a[1], a[2], a[3], a[4]));
        }
    }

    private void badPlace() {
        int w = maker.get().count(0);
        int h = maker.get().count(1);
        int[][] wrong = {{-1, 0}, {0, -1}, {w, 0}, {0, h}, {MAX, 0}, {0, MAX}, {MIN, 0}, {0, MIN}};
        for (int[] a : wrong) {
            bad("field(" + a[0] + ", " + a[1] + ")", x -> x.field(a[0], a[1]));
            bad("at(" + a[0] + ", " + a[1] + ")", x -> x.at(a[0], a[1]));
        }
    }

    private void badField() {
        int[] fields = {-1, 8, MAX, MIN};
        for (int field : fields) {
            bad("colour(" + field + ", 9, 9, 9)", x -> x.colour(field, 9, 9, 9));
            bad("mark(" + field + ", 1, true, true)", x -> x.mark(field, 1, true, true));
            bad("changes(" + field + ")", x -> x.changes(field));
        }
        int[] colours = {-1, 256, MAX, MIN};
        for (int part : colours) {
            bad("colour(3, " + part + ", 200, 0)", x -> x.colour(3, part, 200, 0));
            bad("colour(7, 100, " + part + ", 100)", x -> x.colour(7, 100, part, 100));
            bad("colour(0, 0, 200, " + part + ")", x -> x.colour(0, 0, 200, part));
        }
        int[] longest = {0, 4, -1, MAX, MIN};
        for (int places : longest) {
            for (int field = 0; field < 8; field++) {
                int marked = field;
                bad("mark(" + field + ", " + places + ", true, true)", x -> x.mark(marked, places, true, true));
                bad("mark(" + field + ", " + places + ", false, false)", x -> x.mark(marked, places, false, false));
            }
        }
    }

    private void badCube() {
        int[] cubes = {-1, 7, MAX, MIN};
        int[] counts = {-1, 9, MAX, MIN};
        for (int what : cubes) {
            bad("cube(0, " + what + ")", x -> x.cube(0, what));
            bad("cube(240, " + what + ")", x -> x.cube(240, what));
        }
        for (int what : counts) {
            bad("count(" + what + ")", x -> x.count(what));
        }
    }

    private void badLot() {
        int[] parts = {-1, 256, MAX, MIN};
        for (int part : parts) {
            bad("lot(" + part + ", 0, 0, 9)", x -> x.lot(part, 0, 0, 9));
            bad("lot(0, " + part + ", 0, 9)", x -> x.lot(0, part, 0, 9));
            bad("lot(0, 0, " + part + ", 9)", x -> x.lot(0, 0, part, 9));
        }
        int[] places = {-1, 1001, MAX, MIN};
        for (int n : places) {
            bad("lot(0, 0, 0, " + n + ")", x -> x.lot(0, 0, 0, n));
            bad("more(0, " + n + ")", x -> x.more(0, n));
            bad("more(9, " + n + ")", x -> x.more(9, n));
        }
        int many = maker.get().count(4);
        int[] lots = {-1, many, 10, MAX, MIN};
        for (int lot : lots) {
            bad("left(" + lot + ")", x -> x.left(lot));
            bad("more(" + lot + ", 1)", x -> x.more(lot, 1));
            bad("more(" + lot + ", 1001)", x -> x.more(lot, 1001));
        }
    }

    private void badCut() {
        int[][] wrong = {{0, 1}, {11, 1}, {1, 0}, {1, 25}, {-1, 1}, {1, -1}, {MAX, 1}, {1, MAX}, {MIN, 1}, {1, MIN}};
        for (int[] a : wrong) {
            bad("cut(" + a[0] + ", " + a[1] + ")", x -> x.cut(a[0], a[1]));
        }
    }

    private void badSheet() {
        int many = maker.get().count(5);
        int[] wrong = many == 0 ? new int[] {-1, -2, MIN} : new int[] {-1, many, many + 1, 240, MAX, MIN};
        for (int s : wrong) {
            bad("sheet(" + s + ", 0)", x -> x.sheet(s, 0));
            bad("broken(" + s + ")", x -> x.broken(s));
            bad("crate(5, " + s + ")", x -> x.crate(5, s));
            bad("dealt(" + s + ")", x -> x.dealt(s));
        }
        int[] whats = {-1, 6, MAX, MIN};
        for (int what : whats) {
            bad("sheet(0, " + what + ")", x -> x.sheet(0, what));
            bad("sheet(-1, " + what + ")", x -> x.sheet(-1, what));
        }
    }

    private void badCrate() {
        int[] wrong = {0, 241, -1, MAX, MIN};
        for (int m : wrong) {
            bad("crates(" + m + ")", x -> x.crates(m));
            bad("crate(" + m + ", 0)", x -> x.crate(m, 0));
            bad("crate(" + m + ", -1)", x -> x.crate(m, -1));
        }
    }

    private void badHand() {
        int[] wrong = {0, 21, -1, MAX, MIN};
        for (int skill : wrong) {
            bad("hand(" + skill + ", true)", x -> x.hand(skill, true));
            bad("hand(" + skill + ", false)", x -> x.hand(skill, false));
        }
    }

    // ---- NO and FULL, as the kind of shop has it

    private RefusedTest no(String name, Call call) {
        calls.add(new Refused(name, call, NO));
        return this;
    }

    private RefusedTest notLaid() {
        return no("paint()", MosaicShop::paint).no("cut(1, 1)", x -> x.cut(1, 1)).no("cut(10, 24)", x -> x.cut(10, 24))
            .no("count(8)", x -> x.count(8));
    }

    private RefusedTest notPainted() {
        return no("scrape()", MosaicShop::scrape).no("changes(0)", x -> x.changes(0))
            .no("changes(7)", x -> x.changes(7)).no("count(3)", x -> x.count(3)).no("broken(0)", x -> x.broken(0));
    }

    /** Also one LOT that exists gets more than it can have. */
    private RefusedTest painted(int lot) {
        return no("paint()", MosaicShop::paint).no("more(" + lot + ", 1000)", x -> x.more(lot, 1000));
    }

    private RefusedTest notCut() {
        return no("sheet(0, 0)", x -> x.sheet(0, 0)).no("sheet(MAX, 5)", x -> x.sheet(MAX, 5))
            .no("broken(0)", x -> x.broken(0)).no("broken(MAX)", x -> x.broken(MAX))
            .no("crates(1)", x -> x.crates(1)).no("crates(240)", x -> x.crates(240))
            .no("crate(1, 0)", x -> x.crate(1, 0)).no("crate(240, MAX)", x -> x.crate(240, MAX))
            .no("dealt(MAX)", x -> x.dealt(MAX));
    }

    private RefusedTest undealt() {
        return no("days()", MosaicShop::days).no("dealt(0)", x -> x.dealt(0));
    }

    private RefusedTest above(int lot, int n) {
        return no("more(" + lot + ", " + n + ")", x -> x.more(lot, n));
    }

    private RefusedTest lacking() {
        return no("broken(0)", x -> x.broken(0));
    }

    private RefusedTest noRoom() {
        calls.add(new Refused("lot(0, 0, 0, 0)", x -> x.lot(0, 0, 0, 0), FULL));
        calls.add(new Refused("lot(255, 255, 255, 1000)", x -> x.lot(255, 255, 255, 1000), FULL));
        calls.add(new Refused("hand(1, false)", x -> x.hand(1, false), FULL));
        calls.add(new Refused("hand(20, true)", x -> x.hand(20, true), FULL));
        return this;
    }
}
