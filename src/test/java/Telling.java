import java.util.ArrayList;
import java.util.List;

/**
 * All that a shop answers: first what can be asked, then what calls that change much show of the rest (COLOURS, marks,
 * SKILL). Two shops that tell the same are alike. A telling uses some 300 of the calls that an object has.
 */
final class Telling {
    private static final int MOST_SHEETS = 12;

    private final MosaicShop shop;
    private final List<Long> told = new ArrayList<>();

    private Telling(MosaicShop shop) {
        this.shop = shop;
    }

    static List<Long> of(MosaicShop shop) {
        Telling telling = new Telling(shop);
        telling.ask();
        telling.show();
        return telling.told;
    }

    /** What can be asked, and no more. */
    static List<Long> asked(MosaicShop shop) {
        Telling telling = new Telling(shop);
        telling.ask();
        return telling.told;
    }

    private void ask() {
        tell(shop.digest());
        int right = shop.count(0) - 1;
        int low = shop.count(1) - 1;
        tell(shop.at(0, 0), shop.at(right, 0), shop.at(0, low), shop.at(right, low), shop.field(right, low));
        for (int what = 0; what <= 8; what++) {
            tell(shop.count(what));
        }
        for (int field = 0; field < 8; field++) {
            tell(shop.changes(field));
        }
        for (int s = 0; s < Math.min(MOST_SHEETS, shop.count(5)); s++) {
            for (int what = 0; what <= 5; what++) {
                tell(shop.sheet(s, what));
            }
            tell(shop.dealt(s), shop.crate(7, s));
        }
        tell(shop.crates(1), shop.crates(7), shop.crates(240), shop.days());
    }

    private void show() {
        tell(shop.scrape());
        for (int lot = 0; lot < shop.count(4); lot++) {
            tell(shop.more(lot, 30));
        }
        tell(shop.lay(), shop.paint(), shop.digest());
        tell(shop.wall(24, 1));
        for (int field = 0; field < 8; field++) {
            tell(shop.draw(3 * field, 0, 3 * field + 2, 0, field));
        }
        tell(shop.lay(), shop.paint(), shop.cut(1, 3));
        ask();
        for (int s = 0; s < 8; s++) {
            tell(shop.broken(s));
        }
        for (int b = 5; b <= 24; b += 6) {
            tell(shop.cut(1, b), shop.days(), shop.dealt(0), shop.dealt(1));
        }
        tell(shop.digest());
    }

    private void tell(long... answers) {
        for (long answer : answers) {
            told.add(answer);
        }
    }
}
