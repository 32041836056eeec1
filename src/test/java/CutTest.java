import java.math.BigInteger;

/** Where a number is cut, is 0 at least, or wraps around. */
public final class CutTest {
    private static final int MIN = Integer.MIN_VALUE, MAX = Integer.MAX_VALUE;

    public static void main(String[] args) {
        cellsAreCut();
        cutCellsAreWhatIsTaken();
        copiesAreAsTheyWere();
        lanesChange();
        aKittensShake();
        aThiefsShake();
        bumpsAreNothingAtLeast();
        traceWraps();
        Check.end();
    }

    /** "what comes to a cell of it is cut to its LANE": put, then as bytes, as shorts, as ints. */
    private static void cellsAreCut() {
        int[][] due = {
            {0, 0, 0, 0}, {-1, -1, -1, -1},
            {127, 127, 127, 127}, {128, -128, 128, 128}, {-128, -128, -128, -128}, {-129, 127, -129, -129},
            {255, -1, 255, 255}, {256, 0, 256, 256}, {-255, 1, -255, -255}, {-256, 0, -256, -256},
            {32767, -1, 32767, 32767}, {32768, 0, -32768, 32768},
            {-32768, 0, -32768, -32768}, {-32769, -1, 32767, -32769},
            {65535, -1, -1, 65535}, {65536, 0, 0, 65536}, {65537, 1, 1, 65537}, {-65537, -1, -1, -65537},
            {MAX, -1, -1, MAX}, {MIN, 0, 0, MIN}, {MAX - 1, -2, -2, MAX - 1}, {MIN + 1, 1, 1, MIN + 1}};
        Counted x = new Counted();
        for (int lane = 0; lane < 3; lane++) {
            x.due(1, "sheet", lane, lane, due.length);
            for (int i = 0; i < due.length; i++) {
                x.due(1, "put", lane, i, due[i][0]);
                x.due(due[i][1 + lane], "cell", lane, i, lane);
            }
            for (int i = 0; i < due.length; i++) {
                x.due(due[i][1 + lane], "cell", lane, i, lane);
            }
        }
    }

    /** Pairs, bumps and pages are the cells as they were cut. */
    private static void cutCellsAreWhatIsTaken() {
        for (int lane = 0; lane < 3; lane++) {
            for (int off : new int[] {256, -256, 65536, -65536, MIN}) {
                boolean cut = lane == 0 || lane == 1 && off % 65536 == 0;
                Counted x = Counted.housed("s000;w05;w13,0");
                x.fill(0, lane, 1 + off, 4, 1, 4 + off);
                x.due(cut ? 2 : -1, "night", 0, 0, lane, 0, 1, 0);
                x.due(cut ? 2 : -2, "night", 0, 0, lane, 2, 1, 0);
                x.fill(1, lane, 5 + off, 2 + off);
                x.due(cut ? 1 : 0, "fits", 0, 1, lane, 0, 1, 0);
                x.due(cut ? 1 : 0, "fits", 0, 1, lane, 1, 1, 0);
                x.fill(2, lane, 8, 9, 9 + off, 7);
                x.due(cut ? 1 : 0, "joins", 2, lane, 0, 2, 0);
            }
        }
        // Two ends that are unlike as ints join if they are cut to the same.
        Counted y = new Counted();
        y.fill(0, 0, 1, 300, 44, 2);
        y.due(1, "joins", 0, 0, 0, 2, 0);
        y.fill(1, 1, 1, 65535, -1, 2);
        y.due(1, "joins", 1, 1, 0, 2, 0);
        y.fill(2, 2, 1, 65535, -1, 2);
        y.due(0, "joins", 2, 2, 0, 2, 0);
    }

    /** "n cells of a SHEET from i on go to another one (perhaps the same) from j on, as they were". */
    private static void copiesAreAsTheyWere() {
        for (int from = 0; from <= 6; from++) {
            for (int to = 0; to <= 6; to++) {
                int n = 6 - Math.max(from, to);
                Counted x = new Counted();
                x.fill(2, 2, 1, MIN, 3, MAX, 5, 6);
                int[] were = {1, MIN, 3, MAX, 5, 6};
                int[] due = were.clone();
                for (int k = 0; k < n; k++) {
                    due[to + k] = were[from + k];
                }
                x.due(-13, "copy", 2, from, 2, to, n + 1);
                x.due(n, "copy", 2, from, 2, to, n);
                for (int i = 0; i < 6; i++) {
                    x.due(due[i], "cell", 2, i, 2);
                }
            }
        }
    }

    /** "A SHEET gets a new row": of another lane it is no longer of the former. */
    private static void lanesChange() {
        Counted x = new Counted();
        for (int lane : new int[] {0, 1, 2, 0, 2, 1, 0}) {
            x.due(1, "sheet", 1, lane, 1);
            for (int taken = 0; taken < 3; taken++) {
                x.due(taken == lane ? 0 : Counted.LOST, "cell", 1, 0, taken);
                x.due(taken == lane ? 0 : 2, "fault");
            }
            x.due(1, "put", 1, 0, 40000);
            x.due(lane == 0 ? 64 : lane == 1 ? -25536 : 40000, "cell", 1, 0, lane);
        }
    }

    private static void hop(String kind, int weight, int creak, int want) {
        Counted x = Counted.housed("s0" + creak + "9;" + kind + "0" + weight + ",0");
        x.due(want, "bump", 0, 0, 4);
        x.due(0, "step", 0, 4);
        x.due(want, "ofPen", 0, 1);
        x.due(want, "ofPen", 0, 2);
    }

    /** "of a KITTEN 1 less (0 at least)". */
    private static void aKittensShake() {
        hop("k", 0, 0, 0);
        hop("k", 1, 0, 0);
        hop("k", 0, 1, 0);
        hop("k", 1, 1, 1);
        hop("k", 9, 9, 17);
        // Of a leap the 1 is taken off the whole, so that nothing and a leap of 1 is nothing.
        Counted x = Counted.housed("s1000;k00,2");
        x.due(0, "bump", 0, 0, 3);
        x.due(1, "leap", 2);
        x.due(1, "bump", 0, 0, 3);
        // What a kitten's shake is 0 at least of is no less than a pen's distance would make of it.
        x.due(2, "carry", 0, 1);
        x.due(0, "bump", 0, 0, 4);
    }

    /** "of a THIEF half of what a WALKER's is", and "Quotients are cut". */
    private static void aThiefsShake() {
        for (int weight = 0; weight <= 9; weight++) {
            int[] half = {0, 0, 1, 1, 2, 2, 3, 3, 4, 4};
            hop("t", weight, 0, half[weight]);
        }
        hop("t", 9, 9, 9);
        hop("t", 1, 2, 1);
        // Half of all together, not of each: 3 and 4 and a leap of 3 are 10.
        Counted x = Counted.housed("s3004;t03,2");
        x.due(5, "bump", 0, 0, 3);
        x.due(3, "leap", 4);
        x.due(5, "bump", 0, 0, 3);
        x.due(4, "leap", 5);
        x.due(6, "bump", 0, 0, 3);
        // The half is cut ahead of the distance: 3 and 2 off.
        x.due(2, "carry", 0, 0);
        x.due(3, "dine", 0, 2);
        x.due(3, "bump", 0, 0, 3);
    }

    /** "SHAKE, less as many as the PEN is off that BOARD (0 at least)": to either side, and up to seven off. */
    private static void bumpsAreNothingAtLeast() {
        for (int where = 0; where < 8; where++) {
            for (int pen = 0; pen < 8; pen++) {
                int off = where > pen ? where - pen : pen - where;
                Counted x = Counted.housed("s900000000;w" + where + "0," + pen);
                for (int weight = 0; weight <= 9; weight++) {
                    x.call("dine", 0, weight);
                    x.due(weight <= off ? 0 : weight - off, "bump", 0, 0, 4);
                }
            }
        }
    }

    /** "TRACE (an int that wraps, 0 at first, becomes 31 times it and the number)". */
    private static void traceWraps() {
        Counted x = Counted.housed("s000;w00;k00;t00,0");
        BigInteger trace = BigInteger.ZERO;
        int[][] left = {{1}, {2, 1}, {3, 2, 1, 1}, {4}, {4}, {5}};
        boolean above = false;
        boolean below = false;
        for (int k = 0; k < 200; k++) {
            int body = k * k % 6;
            x.call(body < 3 ? "tell" : "hear", body % 3);
            for (int number : left[body]) {
                trace = trace.multiply(BigInteger.valueOf(31)).add(BigInteger.valueOf(number));
            }
            x.due(trace.intValue(), "trace");
            above = above || k > 50 && trace.intValue() > 0;
            below = below || trace.intValue() < 0;
        }
        Check.holds("it went around", above && below);
    }
}
