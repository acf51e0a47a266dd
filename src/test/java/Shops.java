import java.util.StringJoiner;

/** Shops as the tests of the edges need them, and rows of answers to compare with. */
final class Shops {
    private Shops() {
    }

    /** A WALL of FIELD 0, whose LONGEST CUBE is told. */
    static MosaicShop wall(int w, int h, int longest) {
        MosaicShop x = new MosaicShop();
        x.wall(w, h);
        x.mark(0, longest, false, false);
        return x;
    }

    static MosaicShop laid(int w, int h, int longest) {
        MosaicShop x = wall(w, h, longest);
        x.lay();
        return x;
    }

    /** A row of CUBES of 1 PLACE, LAID and CUT by b PLACES: each SHEET but the last has a WEIGHT of b. */
    static MosaicShop row(int w, int b) {
        MosaicShop x = laid(w, 1, 1);
        x.cut(1, b);
        return x;
    }

    /** LOTS of the COLOUR 0, each with so many PLACES left. */
    static void lots(MosaicShop x, int... left) {
        for (int places : left) {
            x.lot(0, 0, 0, places);
        }
    }

    /** What is told of each CUBE, in order. */
    static String cubes(MosaicShop x, int what) {
        StringJoiner told = new StringJoiner(" ");
        for (int i = 0; i < x.count(2); i++) {
            told.add(Integer.toString(x.cube(i, what)));
        }
        return told.toString();
    }

    /** What is told of each SHEET, in order. */
    static String sheets(MosaicShop x, int what) {
        StringJoiner told = new StringJoiner(" ");
        for (int s = 0; s < x.count(5); s++) {
            told.add(Integer.toString(x.sheet(s, what)));
        }
        return told.toString();
    }

    /** How many PLACES each LOT has left. */
    static String left(MosaicShop x) {
        StringJoiner told = new StringJoiner(" ");
        for (int lot = 0; lot < x.count(4); lot++) {
            told.add(Integer.toString(x.left(lot)));
        }
        return told.toString();
    }

    /** The CRATE of each SHEET for m PLACES. */
    static String crates(MosaicShop x, int m) {
        StringJoiner told = new StringJoiner(" ");
        for (int s = 0; s < x.count(5); s++) {
            told.add(Integer.toString(x.crate(m, s)));
        }
        return told.toString();
    }

    /** The HAND of each SHEET. */
    static String dealt(MosaicShop x) {
        StringJoiner told = new StringJoiner(" ");
        for (int s = 0; s < x.count(5); s++) {
            told.add(Integer.toString(x.dealt(s)));
        }
        return told.toString();
    }
}
