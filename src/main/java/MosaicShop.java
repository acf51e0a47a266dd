/**
 * A mosaic shop: a drawing of fields, laid with cubes, painted from lots, cut into sheets, dealt to hands.
 * The words in capitals in the comments are the document's terms.
 */
public final class MosaicShop {
    public static final int NONE = -1, BAD = -2, NO = -3, FULL = -4;

    private static final int MOST_WIDE = 24;
    private static final int MOST_HIGH = 10;
    private static final int MOST_PLACES = MOST_WIDE * MOST_HIGH;
    private static final int MOST_FIELDS = 8;
    private static final int LONGEST_CUBE = 3;
    private static final int MOST_COLOUR = 255;
    private static final int MOST_LOTS = 10;
    private static final int MOST_LEFT = 1000;
    private static final int MOST_HANDS = 4;
    private static final int MOST_SKILL = 20;
    private static final int MOST_DEALT = 9;
    /** Above every sum that can come up, and far from where sums would wrap. */
    private static final int ENDLESS = 1000000;

    private static final int CUBE_TOLD = 6;
    private static final int SHEET_TOLD = 5;
    private static final int COUNTED = 8;

    private final Drawing drawing;
    private final Fields fields;
    private final Cubes cubes;
    private final Layer layer;
    private final Lots lots;
    private final Painter painter;
    private final Sheets sheets;
    private final Hands hands;
    private final Dealer dealer;

    public MosaicShop() {
        drawing = new Drawing();
        fields = new Fields();
        cubes = new Cubes();
        layer = new Layer(drawing, fields, cubes);
        lots = new Lots();
        painter = new Painter(drawing, fields, cubes, lots);
        sheets = new Sheets(drawing, fields, cubes);
        hands = new Hands();
        dealer = new Dealer(sheets, hands);
    }

    // ---- the drawing

    public int wall(int w, int h) {
        if (!within(w, 1, MOST_WIDE) || !within(h, 1, MOST_HIGH)) {
            return BAD;
        }
        drawing.begin(w, h);
        takeDown();
        return 1;
    }

    public int draw(int x0, int y0, int x1, int y1, int field) {
        if (!drawing.has(x0, y0) || !drawing.has(x1, y1) || x0 > x1 || y0 > y1 || !isField(field)) {
            return BAD;
        }
        int changed = drawing.fill(x0, y0, x1, y1, field);
        if (changed > 0) {
            takeDown();
        }
        return changed;
    }

    public int field(int x, int y) {
        return drawing.has(x, y) ? drawing.fieldAt(x, y) : BAD;
    }

    public int colour(int field, int r, int g, int b) {
        if (!isField(field) || !isColour(r, g, b)) {
            return BAD;
        }
        fields.colours.put(field, r, g, b);
        return 1;
    }

    public int mark(int field, int longest, boolean gold, boolean face) {
        if (!isField(field) || !within(longest, 1, LONGEST_CUBE)) {
            return BAD;
        }
        fields.longest.set(field, longest);
        fields.gold.set(field, gold ? 1 : 0);
        fields.heads.set(field, face ? 1 : 0);
        return 1;
    }

    public int lay() {
        takeDown();
        int stuck = layer.layRows();
        if (stuck != NONE) {
            cubes.clear();
            return -1000 - stuck;
        }
        return cubes.many;
    }

    public int at(int x, int y) {
        if (!drawing.has(x, y)) {
            return BAD;
        }
        return isLaid() ? cubes.over(x, y) : NONE;
    }

    public int cube(int i, int what) {
        if (!within(what, 0, CUBE_TOLD)) {
            return BAD;
        }
        return cubes.has(i) ? cubes.tell(i, what) : NONE;
    }

    // ---- lots

    public int lot(int r, int g, int b, int left) {
        if (!isColour(r, g, b) || !within(left, 0, MOST_LEFT)) {
            return BAD;
        }
        return lots.many < MOST_LOTS ? lots.bring(r, g, b, left) : FULL;
    }

    public int left(int lot) {
        return lots.has(lot) ? lots.stock.get(lot) : BAD;
    }

    public int more(int lot, int n) {
        if (!lots.has(lot) || !within(n, 0, MOST_LEFT)) {
            return BAD;
        }
        if (lots.stock.get(lot) + n > MOST_LEFT) {
            return NO;
        }
        lots.stock.add(lot, n);
        return lots.stock.get(lot);
    }

    public int paint() {
        if (!isLaid() || painter.painted) {
            return NO;
        }
        painter.paintFields();
        return painter.bareCubes();
    }

    public int scrape() {
        return painter.painted ? painter.giveBack() : NO;
    }

    public int changes(int field) {
        if (!isField(field)) {
            return BAD;
        }
        return painter.painted ? painter.changesOf(field) : NO;
    }

    // ---- sheets

    public int cut(int a, int b) {
        if (!within(a, 1, MOST_HIGH) || !within(b, 1, MOST_WIDE)) {
            return BAD;
        }
        if (!isLaid()) {
            return NO;
        }
        sheets.cutWall(a, b);
        return sheets.many;
    }

    public int sheet(int s, int what) {
        if (!maySheet(s) || !within(what, 0, SHEET_TOLD)) {
            return BAD;
        }
        return isCut() ? sheets.tell(s, what) : NO;
    }

    public int broken(int s) {
        if (!maySheet(s)) {
            return BAD;
        }
        return isCut() && painter.painted ? painter.makeAnew(s) : NO;
    }

    public int crates(int m) {
        if (!within(m, 1, MOST_PLACES)) {
            return BAD;
        }
        return isCut() ? sheets.latestCrate(m, sheets.many - 1) + 1 : NO;
    }

    public int crate(int m, int s) {
        if (!within(m, 1, MOST_PLACES) || !maySheet(s)) {
            return BAD;
        }
        if (!isCut()) {
            return NO;
        }
        return sheets.weights.get(s) > 0 ? sheets.latestCrate(m, s) : NONE;
    }

    // ---- hands

    public int hand(int skill, boolean master) {
        if (!within(skill, 1, MOST_SKILL)) {
            return BAD;
        }
        return hands.many < MOST_HANDS ? hands.hire(skill, master) : FULL;
    }

    public int days() {
        return isCut() && dealer.dealSheets() ? dealer.least : NO;
    }

    public int dealt(int s) {
        if (!maySheet(s)) {
            return BAD;
        }
        return isCut() && dealer.dealSheets() ? dealer.handOf(s) : NO;
    }

    public int count(int what) {
        if (!within(what, 0, COUNTED)) {
            return BAD;
        }
        switch (what) {
            case 0: return drawing.wide;
            case 1: return drawing.high;
            case 2: return cubes.many;
            case 3: return painter.painted ? painter.bareCubes() : NO;
            case 4: return lots.many;
            case 5: return sheets.many;
            case 6: return hands.many;
            case 7: return lots.leftInAll();
            default: return isLaid() ? drawing.placesOfAll(fields.gold) : NO;
        }
    }

    public long digest() {
        long h = 149;
        for (int what = 0; what <= COUNTED; what++) {
            h = 31 * h + count(what);
        }
        for (int y = 0; y < drawing.high; y++) {
            for (int x = 0; x < drawing.wide; x++) {
                h = 31 * h + drawing.fieldAt(x, y);
            }
        }
        for (int i = 0; i < cubes.many; i++) {
            for (int what = 0; what <= CUBE_TOLD; what++) {
                h = 31 * h + cubes.tell(i, what);
            }
        }
        for (int lot = 0; lot < lots.many; lot++) {
            h = 31 * h + lots.stock.get(lot);
        }
        return h;
    }

    // ---- what the calls share

    /** A WALL has a PLACE at least, so that one that is LAID has a CUBE. */
    private boolean isLaid() {
        return cubes.many > 0;
    }

    /** As CUT by any numbers, a WALL gives a SHEET at least. */
    private boolean isCut() {
        return sheets.many > 0;
    }

    /** What was given for the CUBES is not given back: LOTS stay as they are. */
    private void takeDown() {
        cubes.clear();
        painter.painted = false;
        sheets.many = 0;
    }

    /** While nothing is CUT, nobody can tell yet which SHEETS there will be. */
    private boolean maySheet(int s) {
        return s >= 0 && (!isCut() || s < sheets.many);
    }

    private static boolean isField(int field) {
        return within(field, 0, MOST_FIELDS - 1);
    }

    private static boolean isColour(int r, int g, int b) {
        return within(r, 0, MOST_COLOUR) && within(g, 0, MOST_COLOUR) && within(b, 0, MOST_COLOUR);
    }

    private static boolean within(int number, int least, int most) {
        return number >= least && number <= most;
    }

    /** Numbers in a row. Every index is looked at here: outside the row there is 0, and nothing is kept there. */
    private static final class Row {
        private final int[] cells;

        Row(int size) {
            cells = new int[Math.max(size, 0)];
        }

        int get(int i) {
            return i >= 0 && i < cells.length ? cells[i] : 0;
        }

        void set(int i, int number) {
            if (i >= 0 && i < cells.length) {
                cells[i] = number;
            }
        }

        void add(int i, int number) {
            set(i, get(i) + number);
        }

        void fill(int number) {
            for (int i = 0; i < cells.length; i++) {
                cells[i] = number;
            }
        }

        void copyFrom(Row other) {
            for (int i = 0; i < cells.length; i++) {
                cells[i] = other.get(i);
            }
        }
    }

    /** The WALL with the FIELD of each PLACE. */
    private static final class Drawing {
        int wide = 1;
        int high = 1;
        final Row places = new Row(MOST_PLACES);

        /** Rows are as far apart in each WALL, as in the number that `lay` tells of a STUCK one. */
        static int place(int x, int y) {
            return y * MOST_WIDE + x;
        }

        boolean has(int x, int y) {
            return within(x, 0, wide - 1) && within(y, 0, high - 1);
        }

        int fieldAt(int x, int y) {
            return places.get(place(x, y));
        }

        void begin(int w, int h) {
            wide = w;
            high = h;
            places.fill(0);
        }

        int fill(int x0, int y0, int x1, int y1, int field) {
            int changed = 0;
            for (int y = y0; y <= y1; y++) {
                for (int x = x0; x <= x1; x++) {
                    if (fieldAt(x, y) != field) {
                        places.set(place(x, y), field);
                        changed++;
                    }
                }
            }
            return changed;
        }

        /** The border at which the STRIP that holds a PLACE ends. */
        int stripEnd(int x, int y) {
            int end = x + 1;
            while (end < wide && fieldAt(end, y) == fieldAt(x, y)) {
                end++;
            }
            return end;
        }

        int placesOf(int field) {
            int many = 0;
            for (int y = 0; y < high; y++) {
                for (int x = 0; x < wide; x++) {
                    if (fieldAt(x, y) == field) {
                        many++;
                    }
                }
            }
            return many;
        }

        /** PLACES of all FIELDS that bear a mark. */
        int placesOfAll(Row marked) {
            int many = 0;
            for (int field = 0; field < MOST_FIELDS; field++) {
                if (marked.get(field) == 1) {
                    many += placesOf(field);
                }
            }
            return many;
        }
    }

    private static final class Colours {
        private final Row reds;
        private final Row greens;
        private final Row blues;

        Colours(int size) {
            reds = new Row(size);
            greens = new Row(size);
            blues = new Row(size);
        }

        void put(int i, int r, int g, int b) {
            reds.set(i, r);
            greens.set(i, g);
            blues.set(i, b);
        }

        /** The sum of the squares of the three differences. */
        int apart(int i, Colours others, int other) {
            int r = reds.get(i) - others.reds.get(other);
            int g = greens.get(i) - others.greens.get(other);
            int b = blues.get(i) - others.blues.get(other);
            return r * r + g * g + b * b;
        }
    }

    private static final class Fields {
        final Colours colours = new Colours(MOST_FIELDS);
        final Row longest = new Row(MOST_FIELDS);
        final Row gold = new Row(MOST_FIELDS);
        final Row heads = new Row(MOST_FIELDS);

        Fields() {
            longest.fill(LONGEST_CUBE);
        }
    }

    /** What is LAID, with what is PAINTED and CUT of it, CUBE by CUBE; no CUBES: it is not LAID. */
    private static final class Cubes {
        int many = 0;
        final Row rows = new Row(MOST_PLACES);
        final Row lefts = new Row(MOST_PLACES);
        final Row widths = new Row(MOST_PLACES);
        final Row fieldNumbers = new Row(MOST_PLACES);
        final Row lotNumbers = new Row(MOST_PLACES);
        final Row sheetNumbers = new Row(MOST_PLACES);
        final Row turnedOver = new Row(MOST_PLACES);
        private final Row overPlaces = new Row(MOST_PLACES);

        void clear() {
            many = 0;
        }

        boolean has(int i) {
            return i >= 0 && i < many;
        }

        void put(int y, int x, int width, int field) {
            rows.set(many, y);
            lefts.set(many, x);
            widths.set(many, width);
            fieldNumbers.set(many, field);
            lotNumbers.set(many, NONE);
            sheetNumbers.set(many, NONE);
            turnedOver.set(many, NONE);
            for (int covered = x; covered < x + width; covered++) {
                overPlaces.set(Drawing.place(covered, y), many);
            }
            many++;
        }

        int over(int x, int y) {
            return overPlaces.get(Drawing.place(x, y));
        }

        int rightOf(int i) {
            return lefts.get(i) + widths.get(i);
        }

        int tell(int i, int what) {
            switch (what) {
                case 0: return rows.get(i);
                case 1: return lefts.get(i);
                case 2: return widths.get(i);
                case 3: return fieldNumbers.get(i);
                case 4: return lotNumbers.get(i);
                case 5: return sheetNumbers.get(i);
                default: return turnedOver.get(i);
            }
        }
    }

    /** Covers the rows of the WALL with CUBES. */
    private static final class Layer {
        private final Drawing drawing;
        private final Fields fields;
        private final Cubes cubes;
        private final Row jointsAhead = new Row(MOST_WIDE + 1);
        private final Row joints = new Row(MOST_WIDE + 1);
        /** By border: how few CUBES cover the STRIP from there to its end; ENDLESS: none do. */
        private final Row fewest = new Row(MOST_WIDE + 1);

        Layer(Drawing drawing, Fields fields, Cubes cubes) {
            this.drawing = drawing;
            this.fields = fields;
            this.cubes = cubes;
        }

        /** NONE, or the first PLACE of the STRIP at which the WALL is STUCK: 24 y + x. */
        int layRows() {
            joints.fill(0);
            for (int y = 0; y < drawing.high; y++) {
                jointsAhead.copyFrom(joints);
                joints.fill(0);
                for (int x = 0; x < drawing.wide; x = Math.max(x + 1, drawing.stripEnd(x, y))) {
                    if (!layStrip(y, x, drawing.stripEnd(x, y))) {
                        return Drawing.place(x, y);
                    }
                }
            }
            return NONE;
        }

        private boolean layStrip(int y, int from, int to) {
            int field = drawing.fieldAt(from, y);
            int longest = fields.longest.get(field);
            countFewest(from, to, longest);
            if (fewest.get(from) >= ENDLESS) {
                return false;
            }
            int width = 1;
            for (int x = from; x < to; x += width) {
                width = Math.max(1, widestOfFewest(x, to, longest));
                cubes.put(y, x, width, field);
                if (x + width < to) {
                    joints.set(x + width, 1);
                }
            }
            return true;
        }

        private void countFewest(int from, int to, int longest) {
            fewest.set(to, 0);
            for (int x = to - 1; x >= from; x--) {
                int least = ENDLESS;
                for (int width = 1; width <= longest; width++) {
                    if (mayEnd(x + width, to)) {
                        least = Math.min(least, fewest.get(x + width) + 1);
                    }
                }
                fewest.set(x, least);
            }
        }

        private int widestOfFewest(int x, int to, int longest) {
            for (int width = longest; width > 1; width--) {
                if (mayEnd(x + width, to) && fewest.get(x + width) == fewest.get(x) - 1) {
                    return width;
                }
            }
            return 1;
        }

        /** Whether a CUBE of a STRIP may end at a border: the STRIP's own end is no JOINT. */
        private boolean mayEnd(int border, int to) {
            return border == to || border < to && jointsAhead.get(border) == 0;
        }
    }

    private static final class Lots {
        int many = 0;
        final Row stock = new Row(MOST_LOTS);
        private final Colours colours = new Colours(MOST_LOTS);

        boolean has(int lot) {
            return lot >= 0 && lot < many;
        }

        int bring(int r, int g, int b, int left) {
            colours.put(many, r, g, b);
            stock.set(many, left);
            many++;
            return many - 1;
        }

        /** The nearest of the LOTS that have so many PLACES left, or NONE. */
        int nearest(Colours wanted, int field, int places) {
            int best = NONE;
            int least = ENDLESS;
            for (int lot = 0; lot < many; lot++) {
                int apart = colours.apart(lot, wanted, field);
                if (stock.get(lot) >= places && apart < least) {
                    best = lot;
                    least = apart;
                }
            }
            return best;
        }

        int leftInAll() {
            int sum = 0;
            for (int lot = 0; lot < many; lot++) {
                sum += stock.get(lot);
            }
            return sum;
        }
    }

    /** Gives LOTS to CUBES, and back. */
    private static final class Painter {
        boolean painted = false;
        private final Drawing drawing;
        private final Fields fields;
        private final Cubes cubes;
        private final Lots lots;
        private final Row stockBefore = new Row(MOST_LOTS);
        private final Row lotsBefore = new Row(MOST_PLACES);

        Painter(Drawing drawing, Fields fields, Cubes cubes, Lots lots) {
            this.drawing = drawing;
            this.fields = fields;
            this.cubes = cubes;
            this.lots = lots;
        }

        void paintFields() {
            for (int field = 0; field < MOST_FIELDS; field++) {
                paintField(field, drawing.placesOf(field));
            }
            painted = true;
        }

        private void paintField(int field, int places) {
            int whole = lots.nearest(fields.colours, field, places);
            for (int i = 0; i < cubes.many; i++) {
                if (cubes.fieldNumbers.get(i) == field) {
                    int lot = whole != NONE ? whole : nearestFor(i);
                    give(lot, i);
                }
            }
        }

        private int nearestFor(int i) {
            return lots.nearest(fields.colours, cubes.fieldNumbers.get(i), cubes.widths.get(i));
        }

        private void give(int lot, int i) {
            cubes.lotNumbers.set(i, lot);
            if (lot != NONE) {
                lots.stock.add(lot, -cubes.widths.get(i));
            }
        }

        int bareCubes() {
            int bare = 0;
            for (int i = 0; i < cubes.many; i++) {
                if (cubes.lotNumbers.get(i) == NONE) {
                    bare++;
                }
            }
            return bare;
        }

        /** Counts what is above a LOT's 1000 too: it is scraped off, though the LOT does not keep it. */
        int giveBack() {
            int places = 0;
            for (int i = 0; i < cubes.many; i++) {
                int lot = cubes.lotNumbers.get(i);
                if (lot != NONE) {
                    int width = cubes.widths.get(i);
                    places += width;
                    lots.stock.set(lot, Math.min(MOST_LEFT, lots.stock.get(lot) + width));
                    cubes.lotNumbers.set(i, NONE);
                }
            }
            painted = false;
            return places;
        }

        int changesOf(int field) {
            int changes = 0;
            int ahead = NONE;
            boolean first = true;
            for (int i = 0; i < cubes.many; i++) {
                if (cubes.fieldNumbers.get(i) == field) {
                    int lot = cubes.lotNumbers.get(i);
                    if (!first && lot != ahead) {
                        changes++;
                    }
                    first = false;
                    ahead = lot;
                }
            }
            return changes;
        }

        /** How many CUBES of a SHEET come from another LOT now; NO: it can't be made. */
        int makeAnew(int sheet) {
            stockBefore.copyFrom(lots.stock);
            lotsBefore.copyFrom(cubes.lotNumbers);
            int changed = 0;
            for (int i = 0; i < cubes.many; i++) {
                int before = cubes.lotNumbers.get(i);
                if (cubes.sheetNumbers.get(i) == sheet && before != NONE) {
                    int lot = lots.stock.get(before) >= cubes.widths.get(i) ? before : nearestFor(i);
                    if (lot == NONE) {
                        lots.stock.copyFrom(stockBefore);
                        cubes.lotNumbers.copyFrom(lotsBefore);
                        return NO;
                    }
                    give(lot, i);
                    changed += lot != before ? 1 : 0;
                }
            }
            return changed;
        }
    }

    /** The WALL's SHEETS; none: it is not CUT. What hangs on marks is not kept: marks may change behind a CUT. */
    private static final class Sheets {
        int many = 0;
        final Row weights = new Row(MOST_PLACES);
        private final Drawing drawing;
        private final Fields fields;
        private final Cubes cubes;

        Sheets(Drawing drawing, Fields fields, Cubes cubes) {
            this.drawing = drawing;
            this.fields = fields;
            this.cubes = cubes;
        }

        void cutWall(int a, int b) {
            int columns = roundedUp(drawing.wide, b);
            many = roundedUp(drawing.high, a) * columns;
            weights.fill(0);
            for (int i = 0; i < cubes.many; i++) {
                int band = roundedUp(cubes.rows.get(i) + 1, a) - 1;
                int sheet = band * columns + cutsLeftOf(i, b);
                cubes.sheetNumbers.set(i, sheet);
                weights.add(sheet, cubes.widths.get(i));
            }
            turnOver();
        }

        /** How many CUTS of its row are not right of a CUBE's left border; CUTS at one border count each. */
        private int cutsLeftOf(int i, int b) {
            int cuts = 0;
            for (int goal = b; goal < drawing.wide; goal += Math.max(b, 1)) {
                if (cutNear(goal, cubes.rows.get(i)) <= cubes.lefts.get(i)) {
                    cuts++;
                }
            }
            return cuts;
        }

        private int cutNear(int goal, int y) {
            for (int away = 0; away <= drawing.wide; away++) {
                if (isBorder(goal - away, y)) {
                    return goal - away;
                }
                if (isBorder(goal + away, y)) {
                    return goal + away;
                }
            }
            return 0;
        }

        private boolean isBorder(int x, int y) {
            return x == drawing.wide || drawing.has(x, y) && cubes.lefts.get(cubes.over(x, y)) == x;
        }

        /** From the last CUBE back, as each has right of it what the next one has, and the next one. */
        private void turnOver() {
            for (int i = cubes.many - 1; i >= 0; i--) {
                boolean next = i + 1 < cubes.many && cubes.rows.get(i + 1) == cubes.rows.get(i)
                    && cubes.sheetNumbers.get(i + 1) == cubes.sheetNumbers.get(i);
                cubes.turnedOver.set(i, next ? cubes.turnedOver.get(i + 1) + cubes.widths.get(i + 1) : 0);
            }
        }

        int tell(int sheet, int what) {
            switch (what) {
                case 0: return cubesOn(sheet);
                case 1: return weights.get(sheet);
                case 2: return placesMarked(sheet, fields.gold);
                case 3: return hasHead(sheet) ? 1 : 0;
                case 4: return leftEdge(sheet);
                default: return rightEdge(sheet);
            }
        }

        private int cubesOn(int sheet) {
            int on = 0;
            for (int i = 0; i < cubes.many; i++) {
                if (cubes.sheetNumbers.get(i) == sheet) {
                    on++;
                }
            }
            return on;
        }

        private int placesMarked(int sheet, Row marked) {
            int places = 0;
            for (int i = 0; i < cubes.many; i++) {
                if (cubes.sheetNumbers.get(i) == sheet && marked.get(cubes.fieldNumbers.get(i)) == 1) {
                    places += cubes.widths.get(i);
                }
            }
            return places;
        }

        boolean hasHead(int sheet) {
            return placesMarked(sheet, fields.heads) > 0;
        }

        private int leftEdge(int sheet) {
            int edge = NONE;
            for (int i = 0; i < cubes.many; i++) {
                int border = cubes.lefts.get(i);
                if (cubes.sheetNumbers.get(i) == sheet && (edge == NONE || border < edge)) {
                    edge = border;
                }
            }
            return edge;
        }

        private int rightEdge(int sheet) {
            int edge = NONE;
            for (int i = 0; i < cubes.many; i++) {
                if (cubes.sheetNumbers.get(i) == sheet) {
                    edge = Math.max(edge, cubes.rightOf(i));
                }
            }
            return edge;
        }

        /** The latest CRATE for m PLACES when the SHEETS up to one are in. */
        int latestCrate(int m, int upTo) {
            int latest = NONE;
            int load = 0;
            for (int s = 0; s <= upTo && s < many; s++) {
                int weight = weights.get(s);
                if (weight > 0 && (latest == NONE || load + weight > m)) {
                    latest++;
                    load = 0;
                }
                load += weight;
            }
            return latest;
        }
    }

    private static final class Hands {
        int many = 0;
        private final Row skills = new Row(MOST_HANDS);
        private final Row masters = new Row(MOST_HANDS);

        int hire(int skill, boolean master) {
            skills.set(many, skill);
            masters.set(many, master ? 1 : 0);
            many++;
            return many - 1;
        }

        boolean isMaster(int hand) {
            return masters.get(hand) == 1;
        }

        boolean haveMaster() {
            boolean found = false;
            for (int hand = 0; hand < many; hand++) {
                found = found || isMaster(hand);
            }
            return found;
        }

        int daysFor(int weight, int hand) {
            return roundedUp(weight, skills.get(hand));
        }
    }

    /** Finds THE DEALING, anew each time, as marks and HANDS may have changed since. */
    private static final class Dealer {
        /** The greatest sum of DAYS in the best dealing as yet. */
        int least = ENDLESS;
        private final Sheets sheets;
        private final Hands hands;
        private int many = 0;
        private final Row sheetNumbers = new Row(MOST_DEALT);
        private final Row headed = new Row(MOST_DEALT);
        private final Row trial = new Row(MOST_DEALT);
        private final Row best = new Row(MOST_DEALT);
        private final Row sums = new Row(MOST_HANDS);

        Dealer(Sheets sheets, Hands hands) {
            this.sheets = sheets;
            this.hands = hands;
        }

        /** Whether there is a dealing. */
        boolean dealSheets() {
            if (hands.many == 0 || !gather()) {
                return false;
            }
            least = ENDLESS;
            sums.fill(0);
            dealFrom(this, 0, 0);
            return true;
        }

        /** The HAND of a SHEET in the dealing that was found; NONE: it was not dealt. */
        int handOf(int sheet) {
            for (int k = 0; k < many; k++) {
                if (sheetNumbers.get(k) == sheet) {
                    return best.get(k);
                }
            }
            return NONE;
        }

        /** Takes up the SHEETS to deal; false: they are too many, or a HEAD is without a MASTER. */
        private boolean gather() {
            many = 0;
            for (int s = 0; s < sheets.many; s++) {
                if (sheets.weights.get(s) > 0) {
                    boolean head = sheets.hasHead(s);
                    if (many == MOST_DEALT || head && !hands.haveMaster()) {
                        return false;
                    }
                    sheetNumbers.set(many, s);
                    headed.set(many, head ? 1 : 0);
                    many++;
                }
            }
            return true;
        }

        /**
         * Tries the HANDS for the SHEETS from the k-th on, the least HAND first. Only a dealing that is better than the
         * best as yet takes its place, so that of like ones the first in order stays.
         */
        private static void dealFrom(Dealer dealer, int k, int greatest) {
            if (k >= dealer.many || k >= MOST_DEALT) {
                dealer.least = greatest;
                dealer.best.copyFrom(dealer.trial);
                return;
            }
            int weight = dealer.sheets.weights.get(dealer.sheetNumbers.get(k));
            for (int hand = 0; hand < dealer.hands.many; hand++) {
                int days = dealer.hands.daysFor(weight, hand);
                int sum = dealer.sums.get(hand) + days;
                boolean may = dealer.headed.get(k) == 0 || dealer.hands.isMaster(hand);
                if (may && Math.max(greatest, sum) < dealer.least) {
                    dealer.trial.set(k, hand);
                    dealer.sums.set(hand, sum);
                    dealFrom(dealer, k + 1, Math.max(greatest, sum));
                    dealer.sums.set(hand, sum - days);
                }
            }
        }
    }

    /** A number parted by another, rounded up; neither is below 0. */
    private static int roundedUp(int number, int by) {
        return by < 1 ? 0 : (number + by - 1) / by;
    }
}
