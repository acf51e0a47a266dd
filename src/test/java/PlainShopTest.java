/** All promises: long runs of calls, each answer compared with PlainShop's. */
public final class PlainShopTest {
    private static final int RUNS = 600;
    /** Some steps are two calls: a run stays below the 512 that are promised. */
    private static final int STEPS = 240;
    private static final int[] EXTREMES = {Integer.MIN_VALUE, -1000, -2, -1, 0, 1, 2, 3, 4, 5, 7, 8, 9, 10, 11, 20, 21,
        23, 24, 25, 240, 241, 255, 256, 1000, 1001, Integer.MAX_VALUE};
    private static final int KINDS = 25;

    private long seed;
    private final MosaicShop shop = new MosaicShop();
    private final PlainShop plain = new PlainShop();
    private final int wildness;

    private PlainShopTest(long seed, int wildness) {
        this.seed = seed;
        this.wildness = wildness;
    }

    public static void main(String[] args) {
        for (int run = 0; run < RUNS; run++) {
            PlainShopTest test = new PlainShopTest(run * 7919L + 1, run % 3 == 0 ? 30 : 3);
            test.begin();
            for (int call = 0; call < STEPS; call++) {
                test.callOne("run " + run + ", call " + call);
            }
        }
        Due.end("PlainShopTest");
    }

    /** A number from..to from a fixed sequence; now and then any other. */
    private int number(int from, int to) {
        if (next(100) < wildness && next(4) == 0) {
            return EXTREMES[next(EXTREMES.length)];
        }
        return from + next(to - from + 1);
    }

    private int next(int below) {
        seed = seed * 6364136223846793005L + 1442695040888963407L;
        return (int) ((seed >>> 33) % below);
    }

    private boolean flag() {
        return next(2) == 1;
    }

    /** A WALL with two FIELDS, LOTS and a HAND, so that most calls of a run meet something. */
    private void begin() {
        int w = 1 + next(24);
        int h = 1 + next(10);
        Due.is("wall", shop.wall(w, h), plain.wall(w, h));
        for (int field = 0; field < 5; field++) {
            markOne(field);
            int r = next(256);
            Due.is("colour", shop.colour(field, r, 9, 9), plain.colour(field, r, 9, 9));
        }
        for (int lot = 0; lot < 4; lot++) {
            int r = next(256);
            int stock = next(90);
            Due.is("lot", shop.lot(r, r, 0, stock), plain.lot(r, r, 0, stock));
        }
        int left = next(200);
        Due.is("hand", shop.hand(1 + left / 10, true), plain.hand(1 + left / 10, true));
        Due.is("lay", shop.lay(), plain.lay());
    }

    private void markOne(int field) {
        int longest = next(8) == 0 ? 1 : 2 + next(2);
        boolean gold = flag();
        boolean face = next(5) == 0;
        Due.is("mark", shop.mark(field, longest, gold, face), plain.mark(field, longest, gold, face));
    }

    private void callOne(String call) {
        int kind = next(100);
        if (kind < 20) {
            tell(call, next(KINDS));
        } else if (kind < 40) {
            layAndCut(call);
        } else {
            ask(call, next(KINDS));
        }
    }

    /** The next step towards a WALL that is LAID, PAINTED and CUT; there, one of them once more. */
    private void layAndCut(String call) {
        boolean laid = plain.count(2) > 0;
        boolean painted = plain.count(3) >= 0;
        int kind = next(8) == 0 ? next(3) : !laid ? 0 : !painted ? 1 : 2;
        if (kind == 0) {
            Due.is(call + ": lay()", shop.lay(), plain.lay());
        } else if (kind == 1) {
            Due.is(call + ": paint()", shop.paint(), plain.paint());
        } else {
            int a = 1 + next(10);
            int b = 1 + next(24);
            Due.is(call + ": cut(" + a + ", " + b + ")", shop.cut(a, b), plain.cut(a, b));
        }
    }

    /** Calls that change something, if they are not refused. */
    private void tell(String call, int kind) {
        int w = plain.count(0);
        int h = plain.count(1);
        switch (kind) {
            case 0:
                int a = flag() ? w : number(1, 24);
                int b = flag() ? h : number(1, 10);
                Due.is(call + ": wall(" + a + ", " + b + ")", shop.wall(a, b), plain.wall(a, b));
                break;
            case 1: case 2:
                int x = number(0, w - 1);
                int y = number(0, h - 1);
                int x1 = flag() ? x : number(0, w - 1);
                int y1 = flag() ? y : number(0, h - 1);
                int f = number(0, 4);
                Due.is(call + ": draw(" + x + ", " + y + ", " + x1 + ", " + y1 + ", " + f + ")",
                    shop.draw(x, y, x1, y1, f), plain.draw(x, y, x1, y1, f));
                break;
            case 4: case 5:
                tellColours(call);
                break;
            case 6: case 7: case 8:
                int field = number(0, 4);
                int longest = flag() ? 3 : number(1, 3);
                boolean gold = flag();
                boolean face = next(4) == 0;
                Due.is(call + ": mark(" + field + ", " + longest + ")",
                    shop.mark(field, longest, gold, face), plain.mark(field, longest, gold, face));
                break;
            case 3: case 9: case 10: case 11:
                int more = number(0, lotNumber());
                int n = next(3) == 0 ? number(0, 1000) : number(0, 30);
                Due.is(call + ": more(" + more + ", " + n + ")", shop.more(more, n), plain.more(more, n));
                break;
            case 12: case 13:
                Due.is(call + ": scrape()", shop.scrape(), plain.scrape());
                break;
            case 14: case 15: case 16: case 17: case 18: case 19: case 20:
                int s = sheet();
                Due.is(call + ": broken(" + s + ")", shop.broken(s), plain.broken(s));
                break;
            case 21: case 22:
                int skill = number(1, 20);
                boolean master = flag();
                Due.is(call + ": hand(" + skill + ", " + master + ")",
                    shop.hand(skill, master), plain.hand(skill, master));
                break;
            default:
                int p = number(1, 10);
                int q = number(1, 24);
                Due.is(call + ": cut(" + p + ", " + q + ")", shop.cut(p, q), plain.cut(p, q));
                break;
        }
    }

    private void tellColours(String call) {
        int field = number(0, 4);
        int r = number(0, 255);
        int g = number(0, 255);
        int b = number(0, 255);
        int left = next(5) == 0 ? number(0, 1000) : number(0, 60);
        String told = r + ", " + g + ", " + b;
        if (flag()) {
            Due.is(call + ": colour(" + field + ", " + told + ")",
                shop.colour(field, r, g, b), plain.colour(field, r, g, b));
        } else {
            Due.is(call + ": lot(" + told + ", " + left + ")", shop.lot(r, g, b, left), plain.lot(r, g, b, left));
        }
    }

    private int lotNumber() {
        return Math.max(0, plain.count(4) - 1);
    }

    private int sheet() {
        return number(0, Math.max(0, plain.count(5) - 1));
    }

    /** Calls that change nothing. */
    private void ask(String call, int kind) {
        switch (kind) {
            case 0: case 1: {
                int x = number(0, plain.count(0) - 1);
                int y = number(0, plain.count(1) - 1);
                Due.is(call + ": field(" + x + ", " + y + ")", shop.field(x, y), plain.field(x, y));
                Due.is(call + ": at(" + x + ", " + y + ")", shop.at(x, y), plain.at(x, y));
                break;
            }
            case 2: case 3: case 4: {
                int i = number(0, plain.count(2));
                int what = number(0, 6);
                Due.is(call + ": cube(" + i + ", " + what + ")", shop.cube(i, what), plain.cube(i, what));
                break;
            }
            case 5: {
                int lot = number(0, lotNumber() + 1);
                Due.is(call + ": left(" + lot + ")", shop.left(lot), plain.left(lot));
                break;
            }
            case 6: case 7: {
                int field = number(0, 4);
                Due.is(call + ": changes(" + field + ")", shop.changes(field), plain.changes(field));
                break;
            }
            case 8: case 9: case 10: {
                int s = sheet();
                int what = number(0, 5);
                Due.is(call + ": sheet(" + s + ", " + what + ")", shop.sheet(s, what), plain.sheet(s, what));
                break;
            }
            case 11: case 12: {
                int s = sheet();
                int m = flag() ? number(1, 40) : number(1, 240);
                Due.is(call + ": crates(" + m + ")", shop.crates(m), plain.crates(m));
                Due.is(call + ": crate(" + m + ", " + s + ")", shop.crate(m, s), plain.crate(m, s));
                break;
            }
            case 13: case 14: {
                int s = sheet();
                Due.is(call + ": days()", shop.days(), plain.days());
                Due.is(call + ": dealt(" + s + ")", shop.dealt(s), plain.dealt(s));
                break;
            }
            case 15: case 16: case 17: {
                int what = number(0, 8);
                Due.is(call + ": count(" + what + ")", shop.count(what), plain.count(what));
                break;
            }
            default:
                Due.is(call + ": digest()", shop.digest(), plain.digest());
                break;
        }
    }
}
