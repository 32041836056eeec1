/** Promises 11 to 13. */
public final class MovesTest {
    private static final String HOUSE = "s2301420;w05;k43;t28;w21,0,5";
    private static final int MIN = Integer.MIN_VALUE, MAX = Integer.MAX_VALUE;

    public static void main(String[] args) {
        stepsAreDrawn();
        refusalsOfStep();
        paper();
        nightsThatCanBe();
        nightsThatCannotBe();
        nightOfNoMinutes();
        longestNight();
        refusalsOfNight();
        pairsAreLookedAtOneByOne();
        Check.end();
    }

    private static void stepsAreDrawn() {
        BumpDiary x = Check.housed(HOUSE);
        Check.due("step(0, 1)", x.step(0, 1), 1);
        drawn(x, 4, 4, 1, 1);
        Check.due("step(0, 3)", x.step(0, 3), 3);
        // 5 + 4 + 2 is 11: 3 less at board 0, 2 less at board 5.
        drawn(x, 12, 8, 10, 9);
        Check.due("step(0, 2)", x.step(0, 2), 1);
        // 5 + 0 + 2 is 7.
        drawn(x, 18, 8, 13, 9);
        Check.due("step(0, 4)", x.step(0, 4), 1);
        drawn(x, 22, 8, 14, 9);
        Check.due("step(0, 0)", x.step(0, 0), 0);
        drawn(x, 30, 8, 17, 9);
        Check.due("where they are", x.ofDoer(0, 1), 0);
        Check.due("a kitten's step", x.step(1, 1), 5);
        // 3 + 0 less 1 is 2.
        drawn(x, 30, 8, 19, 9);
        Check.due("a thief's step", x.step(2, 3), 4);
        // Half of 8 + 2 + 2 is 6.
        drawn(x, 32, 8, 24, 9);
        Check.due("two on one board", x.step(3, 3), 4);
        Check.due("two on one board", x.ofDoer(2, 1), 4);
    }

    private static void drawn(BumpDiary x, int all, int highest, int otherAll, int otherHighest) {
        Check.due("drawn at 0", x.ofPen(0, 1), all);
        Check.due("highest at 0", x.ofPen(0, 2), highest);
        Check.due("drawn at 1", x.ofPen(1, 1), otherAll);
        Check.due("highest at 1", x.ofPen(1, 2), otherHighest);
    }

    private static void refusalsOfStep() {
        BumpDiary x = Check.housed(HOUSE);
        x.step(1, 1);
        long state = Check.stateOf(x);
        Check.due("step(4, 5)", x.step(4, 5), -1);
        Check.due("step(-1, 0)", x.step(-1, 0), -1);
        Check.due("step(0, 5)", x.step(0, 5), -2);
        Check.due("step(0, -1)", x.step(0, -1), -2);
        Check.due("step(0, MAX)", x.step(0, MAX), -2);
        Check.due("step(0, 0)", x.step(0, 0), -3);
        Check.due("step(0, 2)", x.step(0, 2), -3);
        Check.due("step(1, 1)", x.step(1, 1), -3);
        Check.due("step(1, 3)", x.step(1, 3), -3);
        Check.due("state after refusals", Check.stateOf(x), state);
    }

    private static void paper() {
        Check.due("paper without a house", new BumpDiary().paper(), -3);
        BumpDiary x = Check.housed("s000000000;w01,0,7,0");
        Check.due("paper, nothing drawn", x.paper(), 0);
        x.step(0, 4);
        Check.due("paper, two have drawn", x.paper(), 2);
        for (int p = 0; p < 3; p++) {
            Check.due("drawn", x.ofPen(p, 1), 0);
            Check.due("highest", x.ofPen(p, 2), 0);
        }
        Check.due("a pen stays", x.ofPen(1, 0), 7);
        Check.due("paper again", x.paper(), 0);
    }

    private static void nightsThatCanBe() {
        BumpDiary x = Check.housed(HOUSE);
        long state = Check.stateOf(x);
        Check.fill(x, 1, 2, 9, 0, 1, 0, 3, 1, 0, 3, 4, 3, 4, 2, 4, 9);
        // At pen 0: 4, 8, 3, 0, 0, 2; at pen 1: 1, 9, 4, 0, 0, 1.
        int[] line = {4, 8, 3, 0, 0, 2};
        int[] other = {1, 9, 4, 0, 0, 1};
        for (int m = 0; m < 20; m++) {
            Check.due("bump in " + m, x.night(0, 1, 2, 1, 6, 20 + m), m < 6 ? line[m] : -9);
            Check.due("other bump in " + m, x.night(1, 1, 2, 1, 6, 20 + m), m < 6 ? other[m] : -9);
        }
        Check.due("all together", x.night(0, 1, 2, 1, 6, 0), 17);
        Check.due("all together", x.night(1, 1, 2, 1, 6, 0), 15);
        Check.due("first wrong", x.night(0, 1, 2, 1, 6, 1), -9);
        Check.due("first highest", x.night(0, 1, 2, 1, 6, 2), 1);
        Check.due("longest still", x.night(0, 1, 2, 1, 6, 3), 2);
        int[] boards = {3, 3, 2, 2};
        for (int d = 0; d < 4; d++) {
            Check.due("board of " + d, x.night(0, 1, 2, 1, 6, 10 + d), boards[d]);
        }
        Check.due("fewer minutes", x.night(0, 1, 2, 1, 2, 0), 12);
        Check.due("state after nights", Check.stateOf(x), state);
        BumpDiary alone = Check.housed("s000;w00,0");
        Check.fill(alone, 0, 0, 0, 4, 0, 4, 0, 1);
        Check.due("first highest of no bumps", alone.night(0, 0, 0, 0, 3, 2), 0);
        Check.due("still all night", alone.night(0, 0, 0, 0, 3, 3), 3);
        Check.due("board of 0", alone.night(0, 0, 0, 0, 3, 10), 1);
        for (int d = 1; d < 4; d++) {
            Check.due("board of nobody", alone.night(0, 0, 0, 0, 3, 10 + d), -9);
        }
        BumpDiary loud = Check.housed("s054;w00,0");
        Check.fill(loud, 0, 1, 0, 1, 0, 0, 0, 4, 0, 1);
        // 4 - 1, 5, 5, 3
        Check.due("the first of two highest", loud.night(0, 0, 1, 0, 4, 2), 1);
        Check.due("never still", loud.night(0, 0, 1, 0, 4, 3), 0);
    }

    private static void nightsThatCannotBe() {
        BumpDiary x = Check.housed(HOUSE);
        Check.fill(x, 0, 1, 1, 1, 1, 1, 0, 0);
        int[] whats = {0, 2, 3, 10, 13, 20, 22, 39};
        for (int what : whats) {
            Check.due("what " + what, x.night(0, 0, 1, 0, 3, what), -101);
            Check.due("what " + what, x.night(0, 0, 1, 4, 1, what), -100);
        }
        Check.due("first wrong", x.night(0, 0, 1, 0, 3, 1), 1);
        Check.due("first wrong", x.night(0, 0, 1, 4, 1, 1), 0);
        Check.due("can be", x.night(0, 0, 1, 0, 1, 1), -9);
        BumpDiary alone = Check.housed("s000;w00,0");
        Check.fill(alone, 0, 0, 0, 4, 0, 3);
        Check.due("nobody in a night that can't be", alone.night(0, 0, 0, 0, 2, 13), -101);
    }

    private static void nightOfNoMinutes() {
        BumpDiary x = Check.housed(HOUSE);
        Check.fill(x, 0, 0);
        Check.due("all together", x.night(0, 0, 0, 0, 0, 0), 0);
        Check.due("first wrong", x.night(0, 0, 0, 0, 0, 1), -9);
        Check.due("first highest", x.night(0, 0, 0, 0, 0, 2), -9);
        Check.due("longest still", x.night(0, 0, 0, 0, 0, 3), 0);
        Check.due("board of 1", x.night(0, 0, 0, 0, 0, 11), 4);
        Check.due("minute 0", x.night(0, 0, 0, 0, 0, 20), -9);
        Check.due("from 1 on", x.night(0, 0, 0, 1, 0, 0), -13);
        Check.due("from -1 on", x.night(0, 0, 0, -1, 0, 0), -13);
    }

    private static void longestNight() {
        BumpDiary x = Check.housed("s011;w00,0");
        int[] pairs = new int[42];
        for (int m = 0; m < 21; m++) {
            pairs[2 * m + 1] = 4;
        }
        Check.fill(x, 0, 2, pairs);
        Check.due("20 minutes", x.night(0, 0, 2, 0, 20, 0), 20);
        Check.due("20 minutes from 2 on", x.night(0, 0, 2, 2, 20, 0), 20);
        Check.due("20 minutes from 3 on", x.night(0, 0, 2, 3, 20, 0), -13);
        Check.due("the last minute", x.night(0, 0, 2, 0, 20, 39), 1);
        Check.due("21 minutes", x.night(0, 0, 2, 0, 21, 0), -2);
    }

    private static void refusalsOfNight() {
        BumpDiary x = Check.housed(HOUSE);
        Check.fill(x, 1, 2, 0, 1);
        long state = Check.stateOf(x);
        refused(x, new int[] {2, 1, 3, 0, 21, 4}, -1, 0);
        refused(x, new int[] {-1, 1, 2, 0, 1, 0}, -1, 0);
        refused(x, new int[] {0, 4, 3, 0, 21, 4}, -1, 0);
        refused(x, new int[] {0, -1, 2, 0, 1, 0}, -1, 0);
        refused(x, new int[] {0, 2, 3, 0, 1, 0}, -2, 0);
        refused(x, new int[] {0, 1, -1, 0, 1, 0}, -2, 0);
        refused(x, new int[] {0, 2, 0, 0, 21, 0}, -2, 0);
        refused(x, new int[] {0, 1, 2, 0, -1, 0}, -2, 0);
        refused(x, new int[] {0, 1, 2, 0, MIN, 0}, -2, 0);
        refused(x, new int[] {0, 1, 2, 0, MAX, 0}, -2, 0);
        for (int what : new int[] {-1, 4, 9, 14, 19, 40, MIN, MAX}) {
            refused(x, new int[] {0, 2, 0, 0, 1, what}, -2, 0);
        }
        refused(x, new int[] {0, 1, 1, 9, 1, 0}, -12, 2);
        refused(x, new int[] {0, 1, 0, 0, 0, 0}, -12, 2);
        refused(x, new int[] {0, 2, 1, 9, 1, 0}, -11, 1);
        refused(x, new int[] {0, 1, 2, 1, 1, 0}, -13, 3);
        refused(x, new int[] {0, 1, 2, 0, 2, 0}, -13, 3);
        refused(x, new int[] {0, 1, 2, -1, 1, 0}, -13, 3);
        refused(x, new int[] {0, 1, 2, MAX, 20, 0}, -13, 3);
        refused(x, new int[] {0, 1, 2, MIN, 20, 0}, -13, 3);
        refused(x, new int[] {0, 1, 2, 3, 0, 0}, -13, 3);
        Check.due("from the end on", x.night(0, 1, 2, 2, 0, 0), 0);
        Check.due("fault", x.fault(), 0);
        Check.due("state after refusals", Check.stateOf(x), state);
    }

    private static void refused(BumpDiary x, int[] a, int want, int fault) {
        x.put(0, 0, 0);
        Check.due("fault", x.fault(), 1);
        Check.due("night " + java.util.Arrays.toString(a), x.night(a[0], a[1], a[2], a[3], a[4], a[5]), want);
        Check.due("fault", x.fault(), fault);
    }

    private static void pairsAreLookedAtOneByOne() {
        BumpDiary x = Check.housed(HOUSE);
        Check.fill(x, 0, 2, 0, 5, 4, 0);
        Check.due("no move, then nobody", x.night(0, 0, 2, 0, 2, 0), -2);
        Check.fill(x, 0, 2, 4, 5, 0, 5);
        Check.due("nobody makes no move", x.night(0, 0, 2, 0, 2, 0), -1);
        Check.fill(x, 0, 2, 0, -1, 0, 0);
        Check.due("a move below 0", x.night(0, 0, 2, 0, 2, 0), -2);
        Check.fill(x, 0, 2, -1, 0, 0, 0);
        Check.due("a doer below 0", x.night(0, 0, 2, 0, 2, 0), -1);
        Check.due("only the second pair", x.night(0, 0, 2, 2, 1, 0), -100);
        Check.fill(x, 0, 2, 0, 0, 4, 0);
        Check.due("a refusal behind a wrong move", x.night(0, 0, 2, 0, 2, 0), -1);
        Check.due("fault of such a refusal", x.fault(), 0);
        Check.due("a refusal, what 1", x.night(0, 0, 2, 0, 2, 1), -1);
    }
}
