/** Promises 1 to 10, and 36. */
public final class HouseTest {
    private static final String HOUSE = "s2301420;w05;k43;t28;w21,0,5";
    private static final int MIN = Integer.MIN_VALUE, MAX = Integer.MAX_VALUE;

    public static void main(String[] args) {
        constants();
        newObject();
        textsThatAreTaken();
        firstFaults();
        codesAreCutToTheirLane();
        refusalsOfHouse();
        newHouseMakesAllAnew();
        ofDoer();
        ofPen();
        creakAndOil();
        dine();
        carry();
        leap();
        bumpsOfKinds();
        refusalsOfBump();
        many();
        Check.end();
    }

    private static void constants() {
        Check.due("UNKNOWN", BumpDiary.UNKNOWN, -1);
        Check.due("OUTSIDE", BumpDiary.OUTSIDE, -2);
        Check.due("STATE", BumpDiary.STATE, -3);
        Check.due("FULL", BumpDiary.FULL, -4);
        Check.due("NONE", BumpDiary.NONE, -9);
        Check.due("LOST", BumpDiary.LOST, Long.MIN_VALUE);
    }

    private static void newObject() {
        BumpDiary x = new BumpDiary();
        Check.due("fault of a new one", x.fault(), 0);
        Check.due("trace of a new one", x.trace(), 0);
        for (int what = 0; what <= 4; what++) {
            Check.due("many of a new one", x.many(what), 0);
        }
        for (int k = 0; k < 4; k++) {
            Check.due("lose of a new one", x.lose(k), 0);
            Check.due("put of a new one", x.put(k, 0, 0), -11);
        }
        Check.due("ofDoer of a new one", x.ofDoer(0, 0), -1);
        Check.due("ofPen of a new one", x.ofPen(0, 0), -1);
        Check.due("creak of a new one", x.creak(0), -1);
        Check.due("paper of a new one", x.paper(), -3);
        Check.due("part of a new one", x.part(), -3);
        Check.due("leap of a new one", x.leap(0), -3);
        Check.due("odds of a new one", x.odds(0, 0, 0), Long.MIN_VALUE);
    }

    private static void textsThatAreTaken() {
        taken("s213;w05,1", 1, 1, 2);
        taken("s012345678;w70,7", 1, 1, 8);
        taken("s999;k19;t00,0,1,1", 2, 3, 2);
        taken("s0000;w00;k10;t20;w29,2,2", 4, 2, 3);
    }

    private static void taken(String text, int doers, int pens, int boards) {
        BumpDiary x = new BumpDiary();
        Check.due("house " + text, Check.tellHouse(x, text), doers);
        Check.due("fault", x.fault(), 0);
        Check.due("doers of " + text, x.many(0), doers);
        Check.due("pens of " + text, x.many(1), pens);
        Check.due("boards of " + text, x.many(2), boards);
        Check.due("leap of " + text, x.many(3), text.charAt(1) - '0');
    }

    private static void firstFaults() {
        faultAt("", 0);
        faultAt("x", 0);
        faultAt("S213;w05,1", 0);
        faultAt("s", 1);
        faultAt("s;", 1);
        faultAt("s2", 2);
        faultAt("s2;", 2);
        faultAt("s21", 3);
        faultAt("s21;w05,0", 3);
        faultAt("s213", 4);
        faultAt("s213,", 4);
        faultAt("s213/", 4);
        faultAt("s213:", 4);
        faultAt("s213;", 5);
        faultAt("s213;x", 5);
        faultAt("s213;;", 5);
        faultAt("s213;w", 6);
        faultAt("s213;w2", 6);
        faultAt("s213;k9", 6);
        faultAt("s213;t;", 6);
        faultAt("s213;w0", 7);
        faultAt("s213;w0;", 7);
        faultAt("s213;w05", 8);
        faultAt("s213;w055", 8);
        faultAt("s213;w05;", 9);
        faultAt("s213;w05;w", 10);
        faultAt("s213;w05,", 9);
        faultAt("s213;w05,2", 9);
        faultAt("s213;w05,1x", 10);
        faultAt("s213;w05,1;", 10);
        faultAt("s213;w05,11", 10);
        faultAt("s213;w05,1,", 11);
        faultAt("s213;w05,1,0,1,0", 14);
        faultAt("s213;w05,1,0,1,", 14);
        faultAt("s0123456789;w80,8", 10);
        faultAt("s012345678;w80,8", 12);
        faultAt("s011;w00;w00;w00;w00;w00,0", 20);
        faultAt("s011;w00;w00;w00;w00", 20);
    }

    private static void faultAt(String text, int place) {
        BumpDiary x = Check.housed(HOUSE);
        x.step(0, 4);
        x.reading(0, 0, 0, 8);
        x.put(0, 0, 0);
        Check.due("fault", x.fault(), 1);
        long state = Check.stateOf(x);
        Check.due("house " + text, Check.tellHouse(x, text), -100 - place);
        Check.due("fault", x.fault(), 0);
        Check.due("state after " + text, Check.stateOf(x), state);
    }

    private static void codesAreCutToTheirLane() {
        for (int lane = 0; lane <= 2; lane++) {
            BumpDiary x = new BumpDiary();
            Check.fill(x, 1, lane, 0, 115, '2', '1', '3', ';', 'w', '0', '5', ',', '1', 9);
            Check.due("house from 1 on, lane " + lane, x.house(1, lane, 1, 10), 1);
            Check.due("house, a cell more", x.house(1, lane, 1, 11), -110);
            Check.due("house from 0 on", x.house(1, lane, 0, 11), -100);
            x.put(1, 1, 115 + 256);
            Check.due("house of 115 + 256", x.house(1, lane, 1, 10), lane == 0 ? 1 : -100);
            x.put(1, 1, 115 + 65536);
            Check.due("house of 115 + 65536", x.house(1, lane, 1, 10), lane <= 1 ? 1 : -100);
            x.put(1, 1, 115);
            x.put(1, 2, MIN);
            Check.due("house of a least number", x.house(1, lane, 1, 10), -101);
            x.put(1, 2, MAX);
            Check.due("house of a greatest number", x.house(1, lane, 1, 10), -101);
        }
    }

    private static void refusalsOfHouse() {
        BumpDiary x = Check.housed(HOUSE);
        long state = Check.stateOf(x);
        refused(x, 4, 3, 0, -1, -1, 0);
        refused(x, -1, -1, 0, 0, -1, 0);
        refused(x, MIN, 0, 0, 0, -1, 0);
        refused(x, 3, 3, 0, -1, -2, 0);
        refused(x, 0, -1, 0, 0, -2, 0);
        refused(x, 3, 1, -1, -1, -12, 2);
        refused(x, 3, 2, 0, 28, -12, 2);
        refused(x, 0, 0, 99, -1, -11, 1);
        refused(x, 0, 2, 0, 0, -11, 1);
        refused(x, 3, 0, -1, -1, -14, 4);
        refused(x, 3, 0, 0, MIN, -14, 4);
        refused(x, 3, 0, -1, 0, -13, 3);
        refused(x, 3, 0, 29, 0, -13, 3);
        refused(x, 3, 0, 28, 1, -13, 3);
        refused(x, 3, 0, 1, 28, -13, 3);
        refused(x, 3, 0, MAX, MAX, -13, 3);
        refused(x, 3, 0, 1, MAX, -13, 3);
        refused(x, 3, 0, MIN, MAX, -13, 3);
        refused(x, 3, 0, 28, 0, -100, 0);
        refused(x, 3, 0, 0, 0, -100, 0);
        Check.due("as many cells as a sheet can have", x.sheet(0, 0, 60), 1);
        Check.due("house of 60 cells", x.house(0, 0, 0, 60), -100);
        Check.due("house of 61 cells", x.house(0, 0, 0, 61), -13);
        Check.due("state after refusals", Check.stateOf(x), state);
    }

    private static void refused(BumpDiary x, int sheet, int lane, int i, int n, int want, int fault) {
        x.put(0, 0, 0);
        Check.due("house(" + sheet + ", " + lane + ", " + i + ", " + n + ")", x.house(sheet, lane, i, n), want);
        Check.due("fault", x.fault(), fault);
    }

    private static void newHouseMakesAllAnew() {
        BumpDiary x = Check.housed(HOUSE);
        x.step(0, 4);
        x.reading(0, 0, 0, 8);
        x.carry(0, 3);
        x.oil(0, 9);
        x.dine(0, 9);
        x.leap(9);
        x.hear(3);
        Check.due("trace", x.trace(), 4);
        Check.due("house anew", x.house(3, 0, 0, 28), 4);
        Check.due("pen's board anew", x.ofPen(0, 0), 0);
        Check.due("drawn anew", x.ofPen(0, 1), 0);
        Check.due("highest anew", x.ofPen(0, 2), 0);
        Check.due("drawn anew", x.ofPen(1, 1), 0);
        Check.due("creak anew", x.creak(0), 3);
        Check.due("weight anew", x.ofDoer(0, 2), 5);
        Check.due("leap anew", x.many(3), 2);
        Check.due("readings anew", x.many(4), 0);
        Check.due("weights anew", x.weights(0), 1023);
        Check.due("the trace stays", x.trace(), 4);
        Check.due("the sheet stays", x.cell(3, 0, 0), 115);
        Check.due("a lesser house", Check.tellHouse(x, "s213;w05,1"), 1);
        Check.due("no doer 1", x.ofDoer(1, 0), -1);
        Check.due("no pen 1", x.ofPen(1, 0), -1);
        Check.due("no board 2", x.creak(2), -1);
    }

    private static void ofDoer() {
        BumpDiary x = Check.housed(HOUSE);
        int[][] due = {{0, 0, 5, 3}, {1, 4, 3, 4}, {2, 2, 8, 5}, {0, 2, 1, 5}};
        for (int d = 0; d < 4; d++) {
            for (int what = 0; what < 4; what++) {
                Check.due("ofDoer(" + d + ", " + what + ")", x.ofDoer(d, what), due[d][what]);
            }
            Check.due("ofDoer, what 4", x.ofDoer(d, 4), -2);
            Check.due("ofDoer, what -1", x.ofDoer(d, -1), -2);
        }
        Check.due("ofDoer(4, 9)", x.ofDoer(4, 9), -1);
        Check.due("ofDoer(-1, 0)", x.ofDoer(-1, 0), -1);
        Check.due("ofDoer(MAX, MIN)", x.ofDoer(MAX, MIN), -1);
        BumpDiary two = Check.housed("s000;w00;w10,0");
        Check.due("moves on 0 of 2", two.ofDoer(0, 3), 2);
        Check.due("moves on 1 of 2", two.ofDoer(1, 3), 2);
        BumpDiary three = Check.housed("s0000;w10,0");
        Check.due("moves on 1 of 3", three.ofDoer(0, 3), 3);
        BumpDiary eight = Check.housed("s000000000;w00;w10;w60;w70,0");
        Check.due("moves on 0 of 8", eight.ofDoer(0, 3), 3);
        Check.due("moves on 1 of 8", eight.ofDoer(1, 3), 4);
        Check.due("moves on 6 of 8", eight.ofDoer(2, 3), 4);
        Check.due("moves on 7 of 8", eight.ofDoer(3, 3), 3);
    }

    private static void ofPen() {
        BumpDiary x = Check.housed(HOUSE);
        Check.due("ofPen(0, 0)", x.ofPen(0, 0), 0);
        Check.due("ofPen(1, 0)", x.ofPen(1, 0), 5);
        Check.due("ofPen(0, 1)", x.ofPen(0, 1), 0);
        Check.due("ofPen(0, 2)", x.ofPen(0, 2), 0);
        Check.due("ofPen(0, 3)", x.ofPen(0, 3), -2);
        Check.due("ofPen(0, -1)", x.ofPen(0, -1), -2);
        Check.due("ofPen(2, 3)", x.ofPen(2, 3), -1);
        Check.due("ofPen(-1, 0)", x.ofPen(-1, 0), -1);
    }

    private static void creakAndOil() {
        BumpDiary x = Check.housed(HOUSE);
        int[] due = {3, 0, 1, 4, 2, 0};
        for (int b = 0; b < 6; b++) {
            Check.due("creak(" + b + ")", x.creak(b), due[b]);
        }
        Check.due("creak(6)", x.creak(6), -1);
        Check.due("creak(-1)", x.creak(-1), -1);
        Check.due("creak(MAX)", x.creak(MAX), -1);
        long state = Check.stateOf(x);
        Check.due("oil(6, 10)", x.oil(6, 10), -1);
        Check.due("oil(-1, 0)", x.oil(-1, 0), -1);
        Check.due("oil(0, 10)", x.oil(0, 10), -2);
        Check.due("oil(0, -1)", x.oil(0, -1), -2);
        Check.due("state after refusals", Check.stateOf(x), state);
        Check.due("oil(0, 9)", x.oil(0, 9), 3);
        Check.due("oil(0, 0)", x.oil(0, 0), 9);
        Check.due("creak(0)", x.creak(0), 0);
        Check.due("creak(1)", x.creak(1), 0);
        Check.due("a hop after oiling", x.bump(0, 0, 4), 5);
    }

    private static void dine() {
        BumpDiary x = Check.housed(HOUSE);
        long state = Check.stateOf(x);
        Check.due("dine(4, 10)", x.dine(4, 10), -1);
        Check.due("dine(-1, 0)", x.dine(-1, 0), -1);
        Check.due("dine(0, 10)", x.dine(0, 10), -2);
        Check.due("dine(0, -1)", x.dine(0, -1), -2);
        Check.due("state after refusals", Check.stateOf(x), state);
        Check.due("dine(0, 9)", x.dine(0, 9), 5);
        Check.due("dine(0, 0)", x.dine(0, 0), 9);
        Check.due("weight", x.ofDoer(0, 2), 0);
        Check.due("weight of another", x.ofDoer(1, 2), 3);
        Check.due("a hop after dining", x.bump(0, 0, 4), 3);
    }

    private static void carry() {
        BumpDiary x = Check.housed(HOUSE);
        x.step(0, 4);
        long state = Check.stateOf(x);
        Check.due("carry(2, 0)", x.carry(2, 0), -1);
        Check.due("carry(-1, 0)", x.carry(-1, 0), -1);
        Check.due("carry(0, 6)", x.carry(0, 6), -1);
        Check.due("carry(0, -1)", x.carry(0, -1), -1);
        Check.due("state after refusals", Check.stateOf(x), state);
        Check.due("carry(0, 5)", x.carry(0, 5), 0);
        Check.due("carry(0, 2)", x.carry(0, 2), 5);
        Check.due("where it is", x.ofPen(0, 0), 2);
        Check.due("what is drawn stays", x.ofPen(0, 1), 8);
        Check.due("the highest stays", x.ofPen(0, 2), 8);
        Check.due("a hop two boards off", x.bump(0, 0, 4), 6);
    }

    private static void leap() {
        BumpDiary none = new BumpDiary();
        Check.due("leap(10) without a house", none.leap(10), -2);
        Check.due("leap(-1) without a house", none.leap(-1), -2);
        Check.due("leap(9) without a house", none.leap(9), -3);
        Check.due("many(3) without a house", none.many(3), 0);
        BumpDiary x = Check.housed(HOUSE);
        Check.due("leap(10)", x.leap(10), -2);
        Check.due("leap(-1)", x.leap(-1), -2);
        Check.due("many(3)", x.many(3), 2);
        Check.due("leap(9)", x.leap(9), 2);
        Check.due("leap(0)", x.leap(0), 9);
        Check.due("a leap of 0", x.bump(0, 0, 3), 4);
    }

    private static void bumpsOfKinds() {
        // All on board 2 of 5, creaks 0 1 2 3 4, leap 5, weight 2, a pen on each end and in the midst.
        BumpDiary x = Check.housed("s501234;w22;k22;t22,0,2,4");
        int[][] shake = {{3, 5, 7, 11, 4}, {2, 4, 6, 10, 3}, {1, 2, 3, 5, 2}};
        int[] to = {1, 3, 0, 4, 2};
        for (int p = 0; p < 3; p++) {
            for (int d = 0; d < 3; d++) {
                for (int move = 0; move < 5; move++) {
                    int want = Math.max(0, shake[d][move] - Math.abs(2 * p - to[move]));
                    Check.due("bump(" + p + ", " + d + ", " + move + ")", x.bump(p, d, move), want);
                }
            }
        }
        BumpDiary light = Check.housed("s000;k00;t01,0");
        Check.due("a kitten's shake is 0 at least", light.bump(0, 0, 4), 0);
        Check.due("half of 1 is cut", light.bump(0, 1, 4), 0);
        light.dine(0, 1);
        Check.due("a kitten's 1 less", light.bump(0, 0, 4), 0);
        light.dine(0, 2);
        Check.due("a kitten's 1 less", light.bump(0, 0, 4), 1);
    }

    private static void refusalsOfBump() {
        BumpDiary x = Check.housed(HOUSE);
        long state = Check.stateOf(x);
        Check.due("bump(2, 0, 5)", x.bump(2, 0, 5), -1);
        Check.due("bump(-1, 0, 0)", x.bump(-1, 0, 0), -1);
        Check.due("bump(0, 4, 5)", x.bump(0, 4, 5), -1);
        Check.due("bump(0, -1, 0)", x.bump(0, -1, 0), -1);
        Check.due("bump(0, 0, 5)", x.bump(0, 0, 5), -2);
        Check.due("bump(0, 0, -1)", x.bump(0, 0, -1), -2);
        Check.due("bump(0, 0, MIN)", x.bump(0, 0, MIN), -2);
        Check.due("bump(0, 0, 0)", x.bump(0, 0, 0), -3);
        Check.due("bump(0, 0, 2)", x.bump(0, 0, 2), -3);
        Check.due("bump(0, 1, 3)", x.bump(0, 1, 3), -3);
        Check.due("state after refusals", Check.stateOf(x), state);
    }

    private static void many() {
        BumpDiary x = Check.housed(HOUSE);
        x.reading(0, 0, 0, 8);
        int[] due = {4, 2, 6, 2, 1};
        for (int what = 0; what < 5; what++) {
            Check.due("many(" + what + ")", x.many(what), due[what]);
        }
        Check.due("many(5)", x.many(5), -2);
        Check.due("many(-1)", x.many(-1), -2);
        Check.due("many(MIN)", x.many(MIN), -2);
    }
}
