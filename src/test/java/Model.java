import java.util.ArrayList;
import java.util.Arrays;
import java.util.HashSet;
import java.util.List;
import java.util.Set;
import java.util.regex.Matcher;
import java.util.regex.Pattern;

/**
 * The document once more, written another way: by the machine's own arrays, casts and exceptions, by patterns, and by
 * trying all rows, so that a slip in one of the two shows as an unlike answer.
 */
final class Model {
    static final long LOST = Long.MIN_VALUE;

    interface Heard {
        default int heard(Model m, int number) {
            m.leave(4);
            return number;
        }
    }

    static class Walker implements Heard {
        int board;
        int weight;

        int shake(int sum) {
            return sum;
        }

        static int ownTelling(Model m, Walker w) {
            m.leave(1);
            return w.weight;
        }

        int telling(Model m) {
            return ownTelling(m, this);
        }
    }

    static class Kitten extends Walker {
        @Override
        int shake(int sum) {
            return sum == 0 ? 0 : sum - 1;
        }

        @Override
        int telling(Model m) {
            m.leave(2);
            return super.telling(m) + 100;
        }
    }

    static final class Thief extends Kitten {
        @Override
        int shake(int sum) {
            return sum >> 1;
        }

        @Override
        int telling(Model m) {
            m.leave(3);
            int kittens = super.telling(m);
            return kittens + ownTelling(m, this);
        }

        @Override
        public int heard(Model m, int number) {
            m.leave(5);
            return 30;
        }
    }

    private final List<Walker> doers = new ArrayList<>();
    private final List<Integer> creaks = new ArrayList<>();
    private final List<int[]> pens = new ArrayList<>();
    private final List<int[]> readings = new ArrayList<>();
    private final Object[] sheets = new Object[4];
    private int leap;
    private int trace;
    private int fault;

    void leave(int number) {
        trace = trace * 31 + number;
    }

    private static boolean in(long v, long from, long to) {
        return from <= v && v <= to;
    }

    private boolean isDoer(int d) {
        return in(d, 0, doers.size() - 1);
    }

    private boolean isBoard(int b) {
        return in(b, 0, creaks.size() - 1);
    }

    private boolean isPen(int p) {
        return in(p, 0, pens.size() - 1);
    }

    private static int kindOf(Walker w) {
        return w instanceof Thief ? 2 : w instanceof Kitten ? 1 : 0;
    }

    private static int to(int from, int move) {
        return from + (move == 0 ? -1 : move == 1 ? 1 : move == 2 ? -2 : move == 3 ? 2 : 0);
    }

    private int bumpOf(int penBoard, Walker w, int to, int move) {
        int sum = w.weight + creaks.get(to) + (move / 2 == 1 ? leap : 0);
        int left = w.shake(sum) - Math.abs(to - penBoard);
        return left < 0 ? 0 : left;
    }

    // ---- the machine's faults

    private static int machine(RuntimeException e) {
        if (e instanceof NullPointerException) {
            return 1;
        }
        if (e instanceof ClassCastException || e instanceof ArrayStoreException) {
            return 2;
        }
        return e instanceof NegativeArraySizeException ? 4 : 3;
    }

    private static int[] cells(Object row, int lane, int i, int n) {
        int length = lane == 0 ? lengthOf((byte[]) row) : lane == 1 ? lengthOf((short[]) row) : lengthOf((int[]) row);
        int[] taken = new int[n > 60 ? 61 : n];
        if (i < 0 || i > length || (long) i + n > length) {
            throw new IndexOutOfBoundsException();
        }
        for (int k = 0; k < n; k++) {
            taken[k] = java.lang.reflect.Array.getInt(row, i + k);
        }
        return taken;
    }

    private static int lengthOf(Object row) {
        return java.lang.reflect.Array.getLength(row);
    }

    // ---- 1

    private static String asText(int[] codes) {
        StringBuilder text = new StringBuilder();
        for (int code : codes) {
            text.append(in(code, 1, 127) ? (char) code : '?');
        }
        return text.toString();
    }

    private static boolean goesOn(String text, boolean whole) {
        for (int boards = 2; boards <= 8; boards++) {
            String board = "[0-" + (boards - 1) + "]";
            String digit = "[0-9]";
            String form = "s" + digit + digit + "{" + boards + "}(;[wkt]" + board + digit + "){1,4}(," + board + "){1,3}";
            Matcher matcher = Pattern.compile(form).matcher(text);
            if (matcher.matches() || !whole && matcher.hitEnd()) {
                return true;
            }
        }
        return false;
    }

    int house(int sheet, int lane, int i, int n) {
        fault = 0;
        if (!in(sheet, 0, 3)) {
            return -1;
        }
        if (!in(lane, 0, 2)) {
            return -2;
        }
        String text;
        try {
            text = asText(cells(sheets[sheet], lane, i, n));
        } catch (RuntimeException e) {
            fault = machine(e);
            return -10 - fault;
        }
        if (!goesOn(text, true)) {
            int place = 0;
            while (place < text.length() && goesOn(text.substring(0, place + 1), false)) {
                place++;
            }
            return -100 - place;
        }
        tell(text);
        return doers.size();
    }

    private void tell(String text) {
        doers.clear();
        creaks.clear();
        pens.clear();
        readings.clear();
        String[] parts = text.split("[;,]");
        leap = parts[0].charAt(1) - '0';
        for (char c : parts[0].substring(2).toCharArray()) {
            creaks.add(c - '0');
        }
        for (int k = 1; k < parts.length; k++) {
            String part = parts[k];
            if (part.length() == 1) {
                pens.add(new int[] {part.charAt(0) - '0', 0, 0});
                continue;
            }
            Walker w = ofKind("wkt".indexOf(part.charAt(0)));
            w.board = part.charAt(1) - '0';
            w.weight = part.charAt(2) - '0';
            doers.add(w);
        }
    }

    private static Walker ofKind(int kind) {
        return kind == 0 ? new Walker() : kind == 1 ? new Kitten() : new Thief();
    }

    int ofDoer(int d, int what) {
        if (!isDoer(d)) {
            return -1;
        }
        Walker w = doers.get(d);
        int can = 0;
        for (int move = 0; move < 5; move++) {
            can += isBoard(to(w.board, move)) ? 1 : 0;
        }
        return in(what, 0, 3) ? new int[] {kindOf(w), w.board, w.weight, can}[what] : -2;
    }

    int ofPen(int p, int what) {
        return !isPen(p) ? -1 : !in(what, 0, 2) ? -2 : pens.get(p)[what];
    }

    int creak(int b) {
        return isBoard(b) ? creaks.get(b) : -1;
    }

    int oil(int b, int v) {
        return !isBoard(b) ? -1 : !in(v, 0, 9) ? -2 : creaks.set(b, v);
    }

    int dine(int d, int v) {
        if (!isDoer(d) || !in(v, 0, 9)) {
            return isDoer(d) ? -2 : -1;
        }
        int was = doers.get(d).weight;
        doers.get(d).weight = v;
        return was;
    }

    int carry(int p, int b) {
        if (!isPen(p) || !isBoard(b)) {
            return -1;
        }
        int was = pens.get(p)[0];
        pens.get(p)[0] = b;
        return was;
    }

    int leap(int v) {
        if (!in(v, 0, 9) || creaks.isEmpty()) {
            return in(v, 0, 9) ? -3 : -2;
        }
        int was = leap;
        leap = v;
        return was;
    }

    int bump(int p, int d, int move) {
        if (!isPen(p) || !isDoer(d)) {
            return -1;
        }
        if (!in(move, 0, 4)) {
            return -2;
        }
        Walker w = doers.get(d);
        int to = to(w.board, move);
        return isBoard(to) ? bumpOf(pens.get(p)[0], w, to, move) : -3;
    }

    // ---- 2

    int step(int d, int move) {
        if (!isDoer(d)) {
            return -1;
        }
        if (!in(move, 0, 4)) {
            return -2;
        }
        Walker w = doers.get(d);
        int to = to(w.board, move);
        if (!isBoard(to)) {
            return -3;
        }
        for (int[] pen : pens) {
            int bumped = bumpOf(pen[0], w, to, move);
            pen[1] += bumped;
            pen[2] = Math.max(pen[2], bumped);
        }
        w.board = to;
        return to;
    }

    int paper() {
        if (creaks.isEmpty()) {
            return -3;
        }
        int had = 0;
        for (int[] pen : pens) {
            had += pen[1] > 0 ? 1 : 0;
            pen[1] = 0;
            pen[2] = 0;
        }
        return had;
    }

    int night(int p, int sheet, int lane, int i, int n, int what) {
        fault = 0;
        if (!isPen(p) || !in(sheet, 0, 3)) {
            return -1;
        }
        boolean known = in(what, 0, 3) || in(what, 10, 13) || in(what, 20, 39);
        if (!in(lane, 0, 2) || !in(n, 0, 20) || !known) {
            return -2;
        }
        int[] pairs;
        try {
            pairs = cells(sheets[sheet], lane, i, 2 * n);
        } catch (RuntimeException e) {
            fault = machine(e);
            return -10 - fault;
        }
        for (int k = 0; k < 2 * n; k++) {
            if (k % 2 == 0 && !isDoer(pairs[k])) {
                return -1;
            }
            if (k % 2 == 1 && !in(pairs[k], 0, 4)) {
                return -2;
            }
        }
        return nightPlayed(pens.get(p)[0], pairs, what);
    }

    private int nightPlayed(int penBoard, int[] pairs, int what) {
        int[] boards = doers.stream().mapToInt(w -> w.board).toArray();
        List<Integer> line = new ArrayList<>();
        for (int m = 0; m < pairs.length / 2; m++) {
            int d = pairs[2 * m];
            int to = to(boards[d], pairs[2 * m + 1]);
            if (!isBoard(to)) {
                return what == 1 ? m : -100 - m;
            }
            line.add(bumpOf(penBoard, doers.get(d), to, pairs[2 * m + 1]));
            boards[d] = to;
        }
        int highest = line.stream().mapToInt(v -> v).max().orElse(0);
        StringBuilder still = new StringBuilder();
        line.forEach(v -> still.append(v == 0 ? '.' : ' '));
        int longest = 0;
        for (String part : still.toString().split(" ")) {
            longest = Math.max(longest, part.length());
        }
        if (what >= 20) {
            return what - 20 < line.size() ? line.get(what - 20) : -9;
        }
        if (what >= 10) {
            return what - 10 < boards.length ? boards[what - 10] : -9;
        }
        int together = line.stream().mapToInt(v -> v).sum();
        return new int[] {together, -9, line.isEmpty() ? -9 : line.indexOf(highest), longest}[what];
    }

    // ---- 3

    /** The best of all rows of up to 7 moves, as its bumps and its moves; hops are tried, too, if there are few boards. */
    private int[] quietest(Walker w, int from, int to, int[] row, int length, int bumps, int[] best) {
        if (from == to) {
            int[] found = new int[length + 1];
            found[0] = bumps;
            System.arraycopy(row, 0, found, 1, length);
            best = best == null || isBefore(found, best) ? found : best;
        }
        for (int move = 0; length < 7 && move < (creaks.size() <= 3 ? 5 : 4); move++) {
            int next = to(from, move);
            if (isBoard(next)) {
                int more = 0;
                for (int[] pen : pens) {
                    more += bumpOf(pen[0], w, next, move);
                }
                row[length] = move;
                best = quietest(w, next, to, row, length + 1, bumps + more, best);
            }
        }
        return best;
    }

    private static boolean isBefore(int[] a, int[] b) {
        if (a[0] != b[0] || a.length != b.length) {
            return a[0] != b[0] ? a[0] < b[0] : a.length < b.length;
        }
        return Arrays.compare(a, b) < 0;
    }

    private int[] quietest(int d, int to) {
        return quietest(doers.get(d), doers.get(d).board, to, new int[7], 0, 0, null);
    }

    int quiet(int d, int to, int k) {
        if (!isDoer(d) || !isBoard(to)) {
            return -1;
        }
        if (!in(k, -2, 7)) {
            return -2;
        }
        int[] best = quietest(d, to);
        if (k < 0) {
            return k == -2 ? best[0] : best.length - 1;
        }
        return k + 1 < best.length ? best[k + 1] : -9;
    }

    int meet(int a, int b, int what) {
        if (!isDoer(a) || !isDoer(b) || a == b) {
            return -1;
        }
        if (!in(what, 0, 1)) {
            return -2;
        }
        int least = Integer.MAX_VALUE;
        int where = -9;
        for (int board = creaks.size() - 1; board >= 0; board--) {
            int both = quietest(a, board)[0] + quietest(b, board)[0];
            if (both <= least) {
                least = both;
                where = board;
            }
        }
        return what == 0 ? where : least;
    }

    int fits(int p, int sheet, int lane, int i, int n, int what) {
        fault = 0;
        if (!isPen(p) || !in(sheet, 0, 3)) {
            return -1;
        }
        if (!in(lane, 0, 2) || !in(n, 0, 4) || !in(what, 0, 1) && !in(what, 10, 13)) {
            return -2;
        }
        int[] line;
        try {
            line = cells(sheets[sheet], lane, i, n);
        } catch (RuntimeException e) {
            fault = machine(e);
            return -10 - fault;
        }
        int count = 0;
        int[] first = null;
        for (int d = 0; d < doers.size(); d++) {
            for (int code = 0; code < Math.pow(5, n); code++) {
                int[] row = digits(code, 5, n);
                if (draws(doers.get(d), row, pens.get(p)[0], line)) {
                    count++;
                    first = first == null ? concat(d, row) : first;
                }
            }
        }
        if (what == 0) {
            return count;
        }
        int place = what == 1 ? 0 : what - 9;
        return first == null || place >= first.length ? -9 : first[place];
    }

    private boolean draws(Walker w, int[] row, int penBoard, int[] line) {
        int board = w.board;
        for (int k = 0; k < row.length; k++) {
            board = to(board, row[k]);
            if (!isBoard(board) || bumpOf(penBoard, w, board, row[k]) != line[k]) {
                return false;
            }
        }
        return true;
    }

    private static int[] digits(int code, int base, int n) {
        int[] row = new int[n];
        for (int k = n - 1; k >= 0; k--) {
            row[k] = code % base;
            code /= base;
        }
        return row;
    }

    private static int[] concat(int first, int[] row) {
        int[] all = new int[row.length + 1];
        all[0] = first;
        System.arraycopy(row, 0, all, 1, row.length);
        return all;
    }

    int joins(int sheet, int lane, int i, int n, int what) {
        fault = 0;
        if (!in(sheet, 0, 3)) {
            return -1;
        }
        if (!in(lane, 0, 2) || !in(n, 0, 5) || what != 0 && !in(what, 10, 14)) {
            return -2;
        }
        int[] pages;
        try {
            pages = cells(sheets[sheet], lane, i, 2 * n);
        } catch (RuntimeException e) {
            fault = machine(e);
            return -10 - fault;
        }
        int count = 0;
        int[] first = null;
        for (int code = 0; code < Math.pow(n, n); code++) {
            int[] order = digits(code, Math.max(n, 1), n);
            boolean joined = Arrays.stream(order).distinct().count() == n;
            for (int k = 1; k < n; k++) {
                joined &= pages[2 * order[k]] == pages[2 * order[k - 1] + 1];
            }
            count += joined ? 1 : 0;
            first = joined && first == null ? order : first;
        }
        if (what == 0) {
            return count;
        }
        return first == null || what - 10 >= n ? -9 : first[what - 10];
    }

    int loud(int p, int what) {
        if (!isPen(p)) {
            return -1;
        }
        if (!in(what, 0, 2)) {
            return -2;
        }
        int[] best = null;
        for (int d = doers.size() - 1; d >= 0; d--) {
            for (int move = 4; move >= 0; move--) {
                int bumped = bump(p, d, move);
                if (bumped >= 0 && (best == null || bumped >= best[0])) {
                    best = new int[] {bumped, d, move};
                }
            }
        }
        return best[what];
    }

    int part() {
        if (creaks.isEmpty()) {
            return -3;
        }
        for (int b = 0; b < creaks.size(); b++) {
            Set<Integer> bumps = new HashSet<>();
            for (Walker w : doers) {
                bumps.add(bumpOf(b, w, w.board, 4));
            }
            if (bumps.size() == doers.size() && !bumps.contains(0)) {
                return b;
            }
        }
        return -9;
    }

    // ---- 4

    int reading(int d, int b, int p, int v) {
        if (!isDoer(d) || !isBoard(b) || !isPen(p)) {
            return -1;
        }
        if (!in(v, 0, 29)) {
            return -2;
        }
        if (readings.size() == 8) {
            return -4;
        }
        readings.add(new int[] {d, b, p, v});
        return readings.size() - 1;
    }

    int back(int k) {
        if (!in(k, 0, readings.size())) {
            return -2;
        }
        for (int gone = 0; gone < k; gone++) {
            readings.remove(readings.size() - 1);
        }
        return readings.size();
    }

    /** Whether all readings are so, if doer d has this weight and kind and board b this creak (-1: as it is). */
    private boolean areSo(int d, int weight, int kind, int b, int creak) {
        for (int[] r : readings) {
            Walker is = doers.get(r[0]);
            Walker w = ofKind(r[0] == d && kind >= 0 ? kind : kindOf(is));
            int heavy = r[0] == d && weight >= 0 ? weight : is.weight;
            int creaking = r[1] == b ? creak : creaks.get(r[1]);
            int left = w.shake(heavy + creaking) - Math.abs(r[1] - pens.get(r[2])[0]);
            if (Math.max(0, left) != r[3]) {
                return false;
            }
        }
        return true;
    }

    int weights(int d) {
        int set = 0;
        for (int weight = 0; isDoer(d) && weight <= 9; weight++) {
            set += areSo(d, weight, -1, -1, -1) ? 1 << weight : 0;
        }
        return isDoer(d) ? set : -1;
    }

    int kinds(int d) {
        int set = 0;
        for (int kind = 0; isDoer(d) && kind <= 2; kind++) {
            set += areSo(d, -1, kind, -1, -1) ? 1 << kind : 0;
        }
        return isDoer(d) ? set : -1;
    }

    int creaks(int b) {
        int set = 0;
        for (int creak = 0; isBoard(b) && creak <= 9; creak++) {
            set += areSo(-1, -1, -1, b, creak) ? 1 << creak : 0;
        }
        return isBoard(b) ? set : -1;
    }

    long odds(int p, int v, int which) {
        if (!isPen(p) || !in(v, 0, 99) || !in(which, 0, 1)) {
            return LOST;
        }
        long upper = 0;
        long lower = 0;
        for (int code = 0; code < Math.pow(5, doers.size()); code++) {
            int[] row = digits(code, 5, doers.size());
            int together = 0;
            for (int d = 0; d < row.length && together >= 0; d++) {
                int bumped = bump(p, d, row[d]);
                together = bumped < 0 ? -1 : together + bumped;
            }
            lower += together >= 0 ? 1 : 0;
            upper += together >= v ? 1 : 0;
        }
        long shared = java.math.BigInteger.valueOf(upper).gcd(java.math.BigInteger.valueOf(lower)).longValue();
        return (which == 0 ? upper : lower) / shared;
    }

    // ---- 5

    int sheet(int k, int lane, int n) {
        fault = 0;
        if (!in(k, 0, 3)) {
            return -1;
        }
        if (!in(lane, 0, 2) || n > 60) {
            return -2;
        }
        try {
            sheets[k] = lane == 0 ? new byte[n] : lane == 1 ? new short[n] : new int[n];
            return 1;
        } catch (RuntimeException e) {
            fault = machine(e);
            return -10 - fault;
        }
    }

    int lose(int k) {
        if (!in(k, 0, 3)) {
            return -1;
        }
        int had = sheets[k] == null ? 0 : 1;
        sheets[k] = null;
        return had;
    }

    int put(int k, int i, int v) {
        fault = 0;
        if (!in(k, 0, 3)) {
            return -1;
        }
        try {
            if (sheets[k] instanceof byte[] row) {
                row[i] = (byte) v;
            } else if (sheets[k] instanceof short[] row) {
                row[i] = (short) v;
            } else {
                ((int[]) sheets[k])[i] = v;
            }
            return 1;
        } catch (RuntimeException e) {
            fault = machine(e);
            return -10 - fault;
        }
    }

    long cell(int k, int i, int lane) {
        fault = 0;
        if (!in(k, 0, 3) || !in(lane, 0, 2)) {
            return LOST;
        }
        try {
            Object row = sheets[k];
            return lane == 0 ? ((byte[]) row)[i] : lane == 1 ? ((short[]) row)[i] : ((int[]) row)[i];
        } catch (RuntimeException e) {
            fault = machine(e);
            return LOST;
        }
    }

    int copy(int k, int i, int other, int j, int n) {
        fault = 0;
        if (!in(k, 0, 3) || !in(other, 0, 3)) {
            return -1;
        }
        try {
            System.arraycopy(sheets[k], i, sheets[other], j, n);
            return n;
        } catch (RuntimeException e) {
            fault = machine(e);
            return -10 - fault;
        }
    }

    int tell(int d) {
        return isDoer(d) ? doers.get(d).telling(this) : -1;
    }

    int hear(int d) {
        return isDoer(d) ? doers.get(d).heard(this, d) : -1;
    }

    int as(int d, int kind) {
        fault = 0;
        if (!isDoer(d)) {
            return -1;
        }
        if (!in(kind, 0, 2)) {
            return -2;
        }
        try {
            Object taken = kind == 0 ? doers.get(d) : kind == 1 ? (Kitten) doers.get(d) : (Thief) doers.get(d);
            return taken == null ? 0 : 1;
        } catch (ClassCastException e) {
            fault = 2;
            return -12;
        }
    }

    int trace() {
        return trace;
    }

    int fault() {
        return fault;
    }

    int many(int what) {
        int[] counts = {doers.size(), pens.size(), creaks.size(), leap, readings.size()};
        return in(what, 0, 4) ? counts[what] : -2;
    }
}
