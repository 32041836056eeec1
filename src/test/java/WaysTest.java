import java.util.Arrays;

/** Promises 14 to 19. */
public final class WaysTest {
    private static final String HOUSE = "s2301420;w05;k43;t28;w21,0,5";
    private static final int MIN = Integer.MIN_VALUE, MAX = Integer.MAX_VALUE;

    public static void main(String[] args) {
        quietRows();
        quietTies();
        refusalsOfQuiet();
        meet();
        fits();
        refusalsOfFits();
        joins();
        refusalsOfJoins();
        loud();
        part();
        Check.end();
    }

    private static void quiet(BumpDiary x, int d, int to, int all, int... row) {
        Check.due("quiet(" + d + ", " + to + ", -2)", x.quiet(d, to, -2), all);
        Check.due("quiet(" + d + ", " + to + ", -1)", x.quiet(d, to, -1), row.length);
        for (int k = 0; k < 8; k++) {
            Check.due("quiet(" + d + ", " + to + ", " + k + ")", x.quiet(d, to, k), k < row.length ? row[k] : -9);
        }
    }

    /** Bumps of the walker at both pens: to 1 19, to 2 by a leap 7, by a step 1, to 3 11, by a leap 17, to 0 3. */
    private static void quietRows() {
        BumpDiary x = Check.housed("s31905;w02;k32,0,3");
        long state = Check.stateOf(x);
        quiet(x, 0, 0, 0);
        quiet(x, 0, 1, 19, 1);
        quiet(x, 0, 2, 7, 3);
        quiet(x, 0, 3, 18, 3, 1);
        // Bumps of the kitten: to 2 0, to 1 by a step 17, by a leap 23, to 0 by a leap 7, by a step 2.
        quiet(x, 1, 0, 7, 0, 2);
        quiet(x, 1, 1, 17, 0, 0);
        quiet(x, 1, 2, 0, 0);
        quiet(x, 1, 3, 0);
        Check.due("state after ways", Check.stateOf(x), state);
    }

    private static void quietTies() {
        BumpDiary still = Check.housed("s000000000;w00;w70;w20,0");
        quiet(still, 0, 7, 0, 1, 3, 3, 3);
        quiet(still, 1, 0, 0, 0, 2, 2, 2);
        quiet(still, 0, 6, 0, 3, 3, 3);
        quiet(still, 2, 7, 0, 1, 3, 3);
        quiet(still, 2, 2, 0);
        // Leaps bump, steps do not: of the least bumps, though more moves.
        BumpDiary steps = Check.housed("s900000000;w00;w70,0");
        quiet(steps, 0, 7, 0, 1, 1, 1, 1, 1, 1, 1);
        quiet(steps, 1, 0, 0, 0, 0, 0, 0, 0, 0, 0);
    }

    private static void refusalsOfQuiet() {
        BumpDiary x = Check.housed(HOUSE);
        Check.due("quiet(4, 0, 9)", x.quiet(4, 0, 9), -1);
        Check.due("quiet(-1, 0, 0)", x.quiet(-1, 0, 0), -1);
        Check.due("quiet(0, 6, 9)", x.quiet(0, 6, 9), -1);
        Check.due("quiet(0, -1, 0)", x.quiet(0, -1, 0), -1);
        Check.due("quiet(0, 0, 8)", x.quiet(0, 0, 8), -2);
        Check.due("quiet(0, 0, -3)", x.quiet(0, 0, -3), -2);
        Check.due("quiet(0, 0, MIN)", x.quiet(0, 0, MIN), -2);
        Check.due("quiet(0, 0, MAX)", x.quiet(0, 0, MAX), -2);
        Check.due("quiet(0, 0, 7)", x.quiet(0, 0, 7), -9);
        Check.due("quiet without a house", new BumpDiary().quiet(0, 0, 9), -1);
    }

    private static void meet() {
        BumpDiary x = Check.housed("s31905;w02;k32,0,3");
        Check.due("meet on the least of two", x.meet(0, 1, 0), 0);
        Check.due("meet, bumps", x.meet(0, 1, 1), 7);
        Check.due("meet the other way about", x.meet(1, 0, 0), 0);
        Check.due("leap", x.leap(0), 3);
        Check.due("meet on 2", x.meet(0, 1, 0), 2);
        Check.due("meet, bumps", x.meet(1, 0, 1), 1);
        BumpDiary mid = Check.housed("s9101;w02;w22,0,2");
        Check.due("meet in the midst", mid.meet(0, 1, 0), 1);
        Check.due("meet in the midst, bumps", mid.meet(0, 1, 1), 4);
        BumpDiary last = Check.housed("s000000000;w00;w79,7");
        Check.due("meet on the last of eight", last.meet(0, 1, 0), 7);
        Check.due("meet on the last of eight, bumps", last.meet(0, 1, 1), 0);
        long state = Check.stateOf(x);
        Check.due("one with oneself", x.meet(1, 1, 5), -1);
        Check.due("meet(0, 2, 5)", x.meet(0, 2, 5), -1);
        Check.due("meet(2, 0, 0)", x.meet(2, 0, 0), -1);
        Check.due("meet(-1, 0, 0)", x.meet(-1, 0, 0), -1);
        Check.due("meet(0, -1, 0)", x.meet(0, -1, 0), -1);
        Check.due("meet(0, 1, 2)", x.meet(0, 1, 2), -2);
        Check.due("meet(0, 1, -1)", x.meet(0, 1, -1), -2);
        Check.due("state after meeting", Check.stateOf(x), state);
    }

    private static void fit(BumpDiary x, int[] line, int count, int doer, int... row) {
        Check.fill(x, 1, 1, line);
        String told = Arrays.toString(line);
        Check.due("how many fit " + told, x.fits(0, 1, 1, 0, line.length, 0), count);
        Check.due("who fits " + told, x.fits(0, 1, 1, 0, line.length, 1), doer);
        for (int k = 0; k < 4; k++) {
            int want = k < row.length ? row[k] : -9;
            Check.due("move " + k + " that fits " + told, x.fits(0, 1, 1, 0, line.length, 10 + k), want);
        }
    }

    private static void fits() {
        BumpDiary two = Check.housed("s100;w02;w12,0");
        long state = Check.stateOf(two);
        fit(two, new int[] {}, 2, 0);
        fit(two, new int[] {2}, 2, 0, 4);
        fit(two, new int[] {2, 2}, 2, 0, 4, 4);
        fit(two, new int[] {1, 2, 1, 1}, 2, 0, 1, 0, 1, 4);
        fit(two, new int[] {3}, 0, -9);
        fit(two, new int[] {2, 3}, 0, -9);
        fit(two, new int[] {-1}, 0, -9);
        two.dine(0, 9);
        fit(two, new int[] {1, 2, 2}, 1, 1, 4, 0, 4);
        two.dine(0, 2);
        Check.due("state after fits", Check.stateOf(two), state);
        BumpDiary three = Check.housed("s0000;w15,1");
        fit(three, new int[] {4}, 2, 0, 0);
        fit(three, new int[] {4, 4}, 4, 0, 0, 3);
        fit(three, new int[] {4, 4, 5}, 4, 0, 0, 3, 0);
        fit(three, new int[] {5, 5, 5, 5}, 1, 0, 4, 4, 4, 4);
        fit(three, new int[] {6}, 0, -9);
        BumpDiary still = Check.housed("s000;w00,0");
        fit(still, new int[] {0}, 2, 0, 1);
        fit(still, new int[] {0, 0, 0, 0}, 16, 0, 1, 0, 1, 0);
        Check.fill(three, 0, 2, 9, 5, 4, 9);
        Check.due("fits from 1 on", three.fits(0, 0, 2, 1, 2, 0), 2);
    }

    private static void refusalsOfFits() {
        BumpDiary x = Check.housed(HOUSE);
        Check.fill(x, 1, 2, 0, 1);
        fitRefused(x, new int[] {2, 1, 3, 0, 5, 2}, -1, 0);
        fitRefused(x, new int[] {-1, 1, 2, 0, 1, 0}, -1, 0);
        fitRefused(x, new int[] {0, 4, 3, 0, 5, 2}, -1, 0);
        fitRefused(x, new int[] {0, -1, 2, 0, 1, 0}, -1, 0);
        fitRefused(x, new int[] {0, 2, 3, 0, 1, 0}, -2, 0);
        fitRefused(x, new int[] {0, 1, -1, 0, 1, 0}, -2, 0);
        fitRefused(x, new int[] {0, 2, 0, 0, 5, 0}, -2, 0);
        fitRefused(x, new int[] {0, 1, 0, 0, -1, 0}, -2, 0);
        for (int what : new int[] {-1, 2, 9, 14, MIN, MAX}) {
            fitRefused(x, new int[] {0, 2, 0, 0, 1, what}, -2, 0);
        }
        fitRefused(x, new int[] {0, 1, 1, 9, 1, 0}, -12, 2);
        fitRefused(x, new int[] {0, 2, 1, 9, 1, 0}, -11, 1);
        fitRefused(x, new int[] {0, 1, 2, 2, 1, 0}, -13, 3);
        fitRefused(x, new int[] {0, 1, 2, 0, 3, 0}, -13, 3);
        fitRefused(x, new int[] {0, 1, 2, 3, 0, 0}, -13, 3);
        fitRefused(x, new int[] {0, 1, 2, -1, 0, 0}, -13, 3);
        fitRefused(x, new int[] {0, 1, 2, MAX, 4, 0}, -13, 3);
        Check.due("fits of none from the end on", x.fits(0, 1, 2, 2, 0, 0), 4);
        Check.due("fault", x.fault(), 0);
    }

    private static void fitRefused(BumpDiary x, int[] a, int want, int fault) {
        x.put(0, 0, 0);
        Check.due("fits " + Arrays.toString(a), x.fits(a[0], a[1], a[2], a[3], a[4], a[5]), want);
        Check.due("fault", x.fault(), fault);
    }

    private static void join(int[] pages, int count, int... order) {
        BumpDiary x = new BumpDiary();
        Check.fill(x, 2, 0, pages);
        String told = Arrays.toString(pages);
        Check.due("how many orders of " + told, x.joins(2, 0, 0, pages.length / 2, 0), count);
        for (int k = 0; k < 5; k++) {
            int want = k < order.length ? order[k] : -9;
            Check.due("page " + k + " of " + told, x.joins(2, 0, 0, pages.length / 2, 10 + k), want);
        }
    }

    private static void joins() {
        join(new int[] {}, 1);
        join(new int[] {1, 2}, 1, 0);
        join(new int[] {1, 2, 2, 3, 3, 1}, 3, 0, 1, 2);
        join(new int[] {2, 3, 1, 2}, 1, 1, 0);
        join(new int[] {3, 4, 2, 3, 1, 2}, 1, 2, 1, 0);
        join(new int[] {1, 1, 1, 1}, 2, 0, 1);
        join(new int[] {1, 2, 3, 4}, 0);
        join(new int[] {1, 2, 2, 1, 3, 3}, 0);
        join(new int[] {7, 7, 7, 7, 7, 7, 7, 7, 7, 7}, 120, 0, 1, 2, 3, 4);
        join(new int[] {1, 2, 2, 1, 1, 2, 2, 1, 1, 2}, 12, 0, 1, 2, 3, 4);
        join(new int[] {2, 1, 1, 2, 1, 2, 2, 1, 1, 2}, 12, 1, 0, 2, 3, 4);
        BumpDiary x = new BumpDiary();
        Check.fill(x, 0, 2, 5, MAX, MIN, MIN, MAX, 5);
        Check.due("joins from 1 on", x.joins(0, 2, 1, 2, 0), 2);
        Check.due("joins from 1 on", x.joins(0, 2, 1, 2, 10), 0);
        Check.due("joins of one page", x.joins(0, 2, 0, 1, 0), 1);
        Check.due("joins that there are none of", x.joins(0, 2, 0, 3, 10), -9);
    }

    private static void refusalsOfJoins() {
        BumpDiary x = new BumpDiary();
        Check.fill(x, 1, 2, 0, 1);
        joinRefused(x, new int[] {4, 3, 0, 6, 1}, -1, 0);
        joinRefused(x, new int[] {-1, 0, 0, 0, 0}, -1, 0);
        joinRefused(x, new int[] {2, 3, 0, 1, 0}, -2, 0);
        joinRefused(x, new int[] {1, -1, 0, 1, 0}, -2, 0);
        joinRefused(x, new int[] {2, 0, 0, 6, 0}, -2, 0);
        joinRefused(x, new int[] {1, 0, 0, -1, 0}, -2, 0);
        joinRefused(x, new int[] {1, 0, 0, MIN, 0}, -2, 0);
        for (int what : new int[] {-1, 1, 9, 15, MIN, MAX}) {
            joinRefused(x, new int[] {2, 0, 0, 1, what}, -2, 0);
        }
        joinRefused(x, new int[] {1, 1, 9, 1, 0}, -12, 2);
        joinRefused(x, new int[] {2, 1, 9, 1, 0}, -11, 1);
        joinRefused(x, new int[] {1, 2, 1, 1, 0}, -13, 3);
        joinRefused(x, new int[] {1, 2, 0, 2, 0}, -13, 3);
        joinRefused(x, new int[] {1, 2, 3, 0, 0}, -13, 3);
        joinRefused(x, new int[] {1, 2, -1, 0, 0}, -13, 3);
        joinRefused(x, new int[] {1, 2, MAX, 5, 0}, -13, 3);
        Check.due("joins of none from the end on", x.joins(1, 2, 2, 0, 0), 1);
        Check.due("fault", x.fault(), 0);
    }

    private static void joinRefused(BumpDiary x, int[] a, int want, int fault) {
        x.put(0, 0, 0);
        Check.due("joins " + Arrays.toString(a), x.joins(a[0], a[1], a[2], a[3], a[4]), want);
        Check.due("fault", x.fault(), fault);
    }

    private static void loudest(BumpDiary x, int p, int bumped, int doer, int move) {
        Check.due("loud bump", x.loud(p, 0), bumped);
        Check.due("loud doer", x.loud(p, 1), doer);
        Check.due("loud move", x.loud(p, 2), move);
    }

    private static void loud() {
        BumpDiary x = Check.housed(HOUSE);
        loudest(x, 0, 8, 0, 4);
        loudest(x, 1, 5, 0, 3);
        x.step(0, 1);
        // From board 1 the leap to 3 is 11, 3 and 2 off.
        loudest(x, 0, 8, 0, 0);
        loudest(x, 1, 9, 0, 3);
        loudest(Check.housed("s000;w00;w00,0"), 0, 0, 0, 1);
        loudest(Check.housed("s000;w10;w00,0"), 0, 0, 0, 0);
        loudest(Check.housed("s000;w01;w13,0"), 0, 3, 1, 0);
        loudest(Check.housed("s9000;w01;w02,2"), 0, 11, 1, 3);
        Check.due("loud(2, 3)", x.loud(2, 3), -1);
        Check.due("loud(-1, 0)", x.loud(-1, 0), -1);
        Check.due("loud(0, 3)", x.loud(0, 3), -2);
        Check.due("loud(0, -1)", x.loud(0, -1), -2);
        Check.due("loud without a house", new BumpDiary().loud(0, 9), -1);
    }

    private static void part() {
        Check.due("part without a house", new BumpDiary().part(), -3);
        Check.due("part", Check.housed("s000;w05;w03,0").part(), 0);
        Check.due("part of twins", Check.housed("s000;w05;w05,0").part(), -9);
        Check.due("part of alike bumps at 0", Check.housed("s0000;w02;w24,0").part(), 1);
        Check.due("part, one is too far", Check.housed("s0000;w03;w21,0").part(), -9);
        Check.due("part at the last", Check.housed("s0000;w04;w21,0").part(), 2);
        Check.due("part of one without weight", Check.housed("s000;w00,0").part(), -9);
        Check.due("part of four", Check.housed("s1000;w05;w04;w03;k09,0").part(), 0);
        // A leap adds nothing to a hop; kinds part those of like weight.
        Check.due("part by kinds", Check.housed("s911;w05;k05;t05,1").part(), 0);
        BumpDiary x = Check.housed("s0000;w05;w05,2");
        Check.due("part of twins", x.part(), -9);
        x.step(1, 1);
        Check.due("part where they are now", x.part(), 0);
    }
}
