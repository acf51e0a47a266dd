import java.util.ArrayList;
import java.util.Arrays;
import java.util.List;

/**
 * The document told once more, to compare with: it keeps what was told, looks all else up anew in each call, and finds
 * the best of a kind by trying every one. A CUBE is {row, left border, PLACES, FIELD, LOT}.
 */
final class PlainShop {
    private static final int NONE = -1, BAD = -2, NO = -3, FULL = -4;

    private int w = 1;
    private int h = 1;
    private int[][] wall = new int[10][24];
    private final int[][] colour = new int[8][3];
    private final int[] longest = {3, 3, 3, 3, 3, 3, 3, 3};
    private final boolean[] gold = new boolean[8];
    private final boolean[] head = new boolean[8];
    private List<int[]> cubes = null;
    private boolean painted = false;
    private int[] cut = null;
    private final List<int[]> lots = new ArrayList<>();
    private final List<int[]> hands = new ArrayList<>();
    private int[] bestWidths;
    private int[] bestHands;
    private int bestDays;

    private static boolean out(int n, int from, int to) {
        return n < from || n > to;
    }

    private void unlaid() {
        cubes = null;
        painted = false;
        cut = null;
    }

    int wall(int width, int height) {
        if (out(width, 1, 24) || out(height, 1, 10)) {
            return BAD;
        }
        w = width;
        h = height;
        wall = new int[10][24];
        unlaid();
        return 1;
    }

    int draw(int x0, int y0, int x1, int y1, int field) {
        if (out(x0, 0, w - 1) || out(x1, x0, w - 1) || out(y0, 0, h - 1) || out(y1, y0, h - 1) || out(field, 0, 7)) {
            return BAD;
        }
        int others = 0;
        for (int y = y0; y <= y1; y++) {
            for (int x = x0; x <= x1; x++) {
                others += wall[y][x] == field ? 0 : 1;
                wall[y][x] = field;
            }
        }
        if (others != 0) {
            unlaid();
        }
        return others;
    }

    int field(int x, int y) {
        return out(x, 0, w - 1) || out(y, 0, h - 1) ? BAD : wall[y][x];
    }

    int colour(int field, int r, int g, int b) {
        if (out(field, 0, 7) || out(r, 0, 255) || out(g, 0, 255) || out(b, 0, 255)) {
            return BAD;
        }
        colour[field] = new int[] {r, g, b};
        return 1;
    }

    int mark(int field, int most, boolean isGold, boolean face) {
        if (out(field, 0, 7) || out(most, 1, 3)) {
            return BAD;
        }
        longest[field] = most;
        gold[field] = isGold;
        head[field] = face;
        return 1;
    }

    int lay() {
        unlaid();
        List<int[]> laid = new ArrayList<>();
        List<Integer> ahead = new ArrayList<>();
        for (int y = 0; y < h; y++) {
            List<Integer> joints = new ArrayList<>();
            for (int from = 0, to; from < w; from = to) {
                to = from + 1;
                while (to < w && wall[y][to] == wall[y][from]) {
                    to++;
                }
                bestWidths = null;
                tryWidths(from, to, longest[wall[y][from]], ahead, new int[0]);
                if (bestWidths == null) {
                    return -1000 - 24 * y - from;
                }
                int x = from;
                for (int width : bestWidths) {
                    if (x > from) {
                        joints.add(x);
                    }
                    laid.add(new int[] {y, x, width, wall[y][from], NONE});
                    x += width;
                }
            }
            ahead = joints;
        }
        cubes = laid;
        return cubes.size();
    }

    /** Tries all widths, the wide ones first, and keeps the first of the fewest. */
    private void tryWidths(int x, int to, int most, List<Integer> barred, int[] widths) {
        if (bestWidths != null && widths.length + (to - x + most - 1) / most >= bestWidths.length) {
            return;
        }
        if (x == to) {
            bestWidths = widths;
            return;
        }
        for (int width = most; width >= 1; width--) {
            int border = x + width;
            if (border == to || border < to && !barred.contains(border)) {
                int[] longer = Arrays.copyOf(widths, widths.length + 1);
                longer[widths.length] = width;
                tryWidths(border, to, most, barred, longer);
            }
        }
    }

    int at(int x, int y) {
        if (out(x, 0, w - 1) || out(y, 0, h - 1)) {
            return BAD;
        }
        for (int i = 0; cubes != null && i < cubes.size(); i++) {
            int[] c = cubes.get(i);
            if (c[0] == y && c[1] <= x && x < c[1] + c[2]) {
                return i;
            }
        }
        return NONE;
    }

    int cube(int i, int what) {
        if (out(what, 0, 6)) {
            return BAD;
        }
        if (cubes == null || out(i, 0, cubes.size() - 1)) {
            return NONE;
        }
        if (what == 5) {
            return cut == null ? NONE : sheetOf(cubes.get(i));
        }
        return what < 5 ? cubes.get(i)[what] : turnedOver(cubes.get(i));
    }

    private int turnedOver(int[] cube) {
        if (cut == null) {
            return NONE;
        }
        int places = 0;
        for (int[] c : cubes) {
            if (c[0] == cube[0] && c[1] > cube[1] && sheetOf(c) == sheetOf(cube)) {
                places += c[2];
            }
        }
        return places;
    }

    int lot(int r, int g, int b, int left) {
        if (out(r, 0, 255) || out(g, 0, 255) || out(b, 0, 255) || out(left, 0, 1000)) {
            return BAD;
        }
        if (lots.size() == 10) {
            return FULL;
        }
        lots.add(new int[] {r, g, b, left});
        return lots.size() - 1;
    }

    int left(int lot) {
        return out(lot, 0, lots.size() - 1) ? BAD : lots.get(lot)[3];
    }

    int more(int lot, int n) {
        if (out(lot, 0, lots.size() - 1) || out(n, 0, 1000)) {
            return BAD;
        }
        if (lots.get(lot)[3] + n > 1000) {
            return NO;
        }
        return lots.get(lot)[3] += n;
    }

    private int nearest(int field, int places) {
        int best = NONE;
        for (int lot = 0; lot < lots.size(); lot++) {
            boolean has = lots.get(lot)[3] >= places;
            if (has && (best == NONE || distance(field, lot) < distance(field, best))) {
                best = lot;
            }
        }
        return best;
    }

    private int distance(int field, int lot) {
        int sum = 0;
        for (int part = 0; part < 3; part++) {
            int off = Math.abs(colour[field][part] - lots.get(lot)[part]);
            sum += off * off;
        }
        return sum;
    }

    int paint() {
        if (cubes == null || painted) {
            return NO;
        }
        for (int field = 0; field < 8; field++) {
            int places = 0;
            for (int[] c : cubes) {
                places += c[3] == field ? c[2] : 0;
            }
            int all = places == 0 ? NONE : nearest(field, places);
            for (int[] c : cubes) {
                if (c[3] == field) {
                    c[4] = all == NONE ? nearest(field, c[2]) : all;
                    if (c[4] != NONE) {
                        lots.get(c[4])[3] -= c[2];
                    }
                }
            }
        }
        painted = true;
        return count(3);
    }

    int scrape() {
        if (!painted) {
            return NO;
        }
        int places = 0;
        for (int[] c : cubes) {
            if (c[4] != NONE) {
                places += c[2];
                lots.get(c[4])[3] += c[2];
                c[4] = NONE;
            }
        }
        for (int[] lot : lots) {
            lot[3] = Math.min(lot[3], 1000);
        }
        painted = false;
        return places;
    }

    int changes(int field) {
        if (out(field, 0, 7)) {
            return BAD;
        }
        if (!painted) {
            return NO;
        }
        List<Integer> along = new ArrayList<>();
        for (int[] c : cubes) {
            if (c[3] == field) {
                along.add(c[4]);
            }
        }
        int changes = 0;
        for (int i = 1; i < along.size(); i++) {
            changes += along.get(i).equals(along.get(i - 1)) ? 0 : 1;
        }
        return changes;
    }

    private int columns() {
        return (int) Math.ceil(w / (double) cut[1]);
    }

    private int sheets() {
        return cut == null ? 0 : (int) Math.ceil(h / (double) cut[0]) * columns();
    }

    private int sheetOf(int[] cube) {
        List<Integer> borders = new ArrayList<>(List.of(0));
        for (int[] c : cubes) {
            if (c[0] == cube[0]) {
                borders.add(c[1] + c[2]);
            }
        }
        int column = 0;
        for (int k = 1; k * cut[1] < w; k++) {
            int nearest = 0;
            for (int border : borders) {
                if (Math.abs(border - k * cut[1]) < Math.abs(nearest - k * cut[1])) {
                    nearest = border;
                }
            }
            column += nearest <= cube[1] ? 1 : 0;
        }
        return cube[0] / cut[0] * columns() + column;
    }

    private List<int[]> cubesOf(int sheet) {
        List<int[]> found = new ArrayList<>();
        for (int[] c : cubes) {
            if (sheetOf(c) == sheet) {
                found.add(c);
            }
        }
        return found;
    }

    private boolean notSheet(int s) {
        return s < 0 || cut != null && s >= sheets();
    }

    int cut(int a, int b) {
        if (out(a, 1, 10) || out(b, 1, 24)) {
            return BAD;
        }
        if (cubes == null) {
            return NO;
        }
        cut = new int[] {a, b};
        return sheets();
    }

    int sheet(int s, int what) {
        if (notSheet(s) || out(what, 0, 5)) {
            return BAD;
        }
        if (cut == null) {
            return NO;
        }
        List<int[]> on = cubesOf(s);
        int[] told = {on.size(), 0, 0, 0, on.isEmpty() ? NONE : 24, NONE};
        for (int[] c : on) {
            told[1] += c[2];
            told[2] += gold[c[3]] ? c[2] : 0;
            told[3] = head[c[3]] ? 1 : told[3];
            told[4] = Math.min(told[4], c[1]);
            told[5] = Math.max(told[5], c[1] + c[2]);
        }
        return told[what];
    }

    int broken(int s) {
        if (notSheet(s)) {
            return BAD;
        }
        if (cut == null || !painted) {
            return NO;
        }
        List<int[]> on = cubesOf(s);
        int[] lotsThen = new int[on.size()];
        int[] taken = new int[10];
        int changed = 0;
        boolean made = true;
        for (int i = 0; i < on.size() && made; i++) {
            int[] c = on.get(i);
            lotsThen[i] = c[4];
            if (c[4] != NONE) {
                lotsThen[i] = lots.get(c[4])[3] >= c[2] ? c[4] : nearest(c[3], c[2]);
                changed += lotsThen[i] != c[4] ? 1 : 0;
                made = lotsThen[i] != NONE;
                if (made) {
                    lots.get(lotsThen[i])[3] -= c[2];
                    taken[lotsThen[i]] += c[2];
                }
            }
        }
        for (int lot = 0; lot < lots.size() && !made; lot++) {
            lots.get(lot)[3] += taken[lot];
        }
        for (int i = 0; i < on.size() && made; i++) {
            on.get(i)[4] = lotsThen[i];
        }
        return made ? changed : NO;
    }

    private List<List<Integer>> cratesFor(int m) {
        List<List<Integer>> crates = new ArrayList<>();
        int latest = 0;
        for (int s = 0; s < sheets(); s++) {
            int weight = sheet(s, 1);
            if (weight == 0) {
                continue;
            }
            if (crates.isEmpty() || latest + weight > m) {
                crates.add(new ArrayList<>());
                latest = 0;
            }
            crates.get(crates.size() - 1).add(s);
            latest += weight;
        }
        return crates;
    }

    int crates(int m) {
        return out(m, 1, 240) ? BAD : cut == null ? NO : cratesFor(m).size();
    }

    int crate(int m, int s) {
        if (out(m, 1, 240) || notSheet(s)) {
            return BAD;
        }
        if (cut == null) {
            return NO;
        }
        List<List<Integer>> crates = cratesFor(m);
        for (int crate = 0; crate < crates.size(); crate++) {
            if (crates.get(crate).contains(s)) {
                return crate;
            }
        }
        return NONE;
    }

    int hand(int skill, boolean master) {
        if (out(skill, 1, 20)) {
            return BAD;
        }
        if (hands.size() == 4) {
            return FULL;
        }
        hands.add(new int[] {skill, master ? 1 : 0});
        return hands.size() - 1;
    }

    /** The SHEETS with WEIGHT, dealt; null: they can't be. */
    private List<Integer> deal() {
        List<Integer> dealt = new ArrayList<>();
        for (int s = 0; s < sheets(); s++) {
            if (sheet(s, 1) > 0) {
                dealt.add(s);
            }
        }
        if (cut == null || dealt.size() > 9) {
            return null;
        }
        int[] weights = new int[dealt.size()];
        boolean[] heads = new boolean[dealt.size()];
        for (int k = 0; k < weights.length; k++) {
            weights[k] = sheet(dealt.get(k), 1);
            heads[k] = sheet(dealt.get(k), 3) == 1;
        }
        bestHands = null;
        tryHands(weights, heads, new int[weights.length], 0);
        return bestHands == null ? null : dealt;
    }

    /** Tries all dealings there are, in order, and keeps the first of the best. */
    private void tryHands(int[] weights, boolean[] heads, int[] tried, int k) {
        if (k < weights.length) {
            for (int hand = 0; hand < hands.size(); hand++) {
                tried[k] = hand;
                if (!heads[k] || hands.get(hand)[1] == 1) {
                    tryHands(weights, heads, tried, k + 1);
                }
            }
            return;
        }
        int[] sums = new int[4];
        int most = 0;
        for (int j = 0; j < weights.length; j++) {
            sums[tried[j]] += (int) Math.ceil(weights[j] / (double) hands.get(tried[j])[0]);
            most = Math.max(most, sums[tried[j]]);
        }
        if (bestHands == null || most < bestDays) {
            bestHands = tried.clone();
            bestDays = most;
        }
    }

    int days() {
        return deal() == null ? NO : bestDays;
    }

    int dealt(int s) {
        if (notSheet(s)) {
            return BAD;
        }
        List<Integer> dealt = deal();
        if (dealt == null) {
            return NO;
        }
        return dealt.contains(s) ? bestHands[dealt.indexOf(s)] : NONE;
    }

    int count(int what) {
        if (out(what, 0, 8)) {
            return BAD;
        }
        int bare = 0;
        int leaf = 0;
        for (int i = 0; cubes != null && i < cubes.size(); i++) {
            bare += cubes.get(i)[4] == NONE ? 1 : 0;
            leaf += gold[cubes.get(i)[3]] ? cubes.get(i)[2] : 0;
        }
        int left = 0;
        for (int[] lot : lots) {
            left += lot[3];
        }
        int[] counts = {w, h, cubes == null ? 0 : cubes.size(), painted ? bare : NO, lots.size(), sheets(),
            hands.size(), left, cubes == null ? NO : leaf};
        return counts[what];
    }

    long digest() {
        List<Integer> parts = new ArrayList<>();
        for (int what = 0; what < 9; what++) {
            parts.add(count(what));
        }
        for (int y = 0; y < h; y++) {
            for (int x = 0; x < w; x++) {
                parts.add(wall[y][x]);
            }
        }
        for (int i = 0; cubes != null && i < cubes.size(); i++) {
            for (int what = 0; what < 7; what++) {
                parts.add(cube(i, what));
            }
        }
        for (int[] lot : lots) {
            parts.add(lot[3]);
        }
        long sum = 149;
        for (int part : parts) {
            sum = 31 * sum + part;
        }
        return sum;
    }
}
