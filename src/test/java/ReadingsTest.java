/** Promises 20 to 25. */
public final class ReadingsTest {
    private static final String HOUSE = "s2301420;w05;k43;t28;w21,0,5";
    private static final int MIN = Integer.MIN_VALUE, MAX = Integer.MAX_VALUE;

    public static void main(String[] args) {
        readingsAreNumbered();
        refusalsOfReading();
        back();
        nothingIsReadYet();
        oneWalker();
        oneThief();
        oneStillKitten();
        allReadingsMustBeSo();
        nowNotThen();
        refusalsOfSets();
        odds();
        oddsOfFour();
        refusalsOfOdds();
        Check.end();
    }

    private static void readingsAreNumbered() {
        BumpDiary x = Check.housed(HOUSE);
        for (int k = 0; k < 8; k++) {
            Check.due("reading " + k, x.reading(0, 0, 0, 8), k);
            Check.due("how many", x.many(4), k + 1);
        }
        Check.due("a ninth reading", x.reading(0, 0, 0, 8), -4);
        Check.due("how many", x.many(4), 8);
        Check.due("back(3)", x.back(3), 5);
        Check.due("reading 5 again", x.reading(1, 1, 1, 0), 5);
    }

    private static void refusalsOfReading() {
        BumpDiary x = Check.housed(HOUSE);
        for (int round = 0; round < 2; round++) {
            long state = Check.stateOf(x);
            Check.due("reading(4, 0, 0, 30)", x.reading(4, 0, 0, 30), -1);
            Check.due("reading(-1, 0, 0, 0)", x.reading(-1, 0, 0, 0), -1);
            Check.due("reading(0, 6, 0, 30)", x.reading(0, 6, 0, 30), -1);
            Check.due("reading(0, -1, 0, 0)", x.reading(0, -1, 0, 0), -1);
            Check.due("reading(0, 0, 2, 30)", x.reading(0, 0, 2, 30), -1);
            Check.due("reading(0, 0, -1, 0)", x.reading(0, 0, -1, 0), -1);
            Check.due("reading(0, 0, 0, 30)", x.reading(0, 0, 0, 30), -2);
            Check.due("reading(0, 0, 0, -1)", x.reading(0, 0, 0, -1), -2);
            Check.due("reading(0, 0, 0, MIN)", x.reading(0, 0, 0, MIN), -2);
            Check.due("state after refusals", Check.stateOf(x), state);
            for (int k = 0; k < 8; k++) {
                x.reading(0, 0, 0, 8);
            }
        }
        BumpDiary y = Check.housed(HOUSE);
        Check.due("the greatest bump", y.reading(0, 0, 0, 29), 0);
        Check.due("the least bump", y.reading(0, 0, 0, 0), 1);
    }

    private static void back() {
        BumpDiary none = new BumpDiary();
        Check.due("back(0) without a house", none.back(0), 0);
        Check.due("back(1) without a house", none.back(1), -2);
        BumpDiary x = Check.housed(HOUSE);
        x.reading(0, 0, 0, 8);
        x.reading(0, 0, 0, 9);
        Check.due("weights", x.weights(0), 0);
        Check.due("back(3)", x.back(3), -2);
        Check.due("back(-1)", x.back(-1), -2);
        Check.due("back(MIN)", x.back(MIN), -2);
        Check.due("back(0)", x.back(0), 2);
        Check.due("back(1)", x.back(1), 1);
        Check.due("weights by the first alone", x.weights(0), 1 << 5);
        Check.due("back(1)", x.back(1), 0);
        Check.due("weights by none", x.weights(0), 1023);
    }

    private static void nothingIsReadYet() {
        BumpDiary x = Check.housed(HOUSE);
        for (int d = 0; d < 4; d++) {
            Check.due("weights", x.weights(d), 1023);
            Check.due("kinds", x.kinds(d), 7);
        }
        for (int b = 0; b < 6; b++) {
            Check.due("creaks", x.creaks(b), 1023);
        }
    }

    private static void oneWalker() {
        BumpDiary x = Check.housed(HOUSE);
        Check.due("reading", x.reading(0, 0, 0, 8), 0);
        Check.due("weights(0)", x.weights(0), 1 << 5);
        Check.due("kinds(0)", x.kinds(0), 1);
        Check.due("creaks(0)", x.creaks(0), 1 << 3);
        Check.due("weights(1)", x.weights(1), 1023);
        Check.due("kinds(1)", x.kinds(1), 7);
        Check.due("creaks(1)", x.creaks(1), 1023);
        Check.due("the weight is as it was", x.ofDoer(0, 2), 5);
        Check.due("the kind is as it was", x.ofDoer(0, 0), 0);
        Check.due("the creak is as it was", x.creak(0), 3);
    }

    private static void oneThief() {
        BumpDiary x = Check.housed(HOUSE);
        Check.due("reading", x.reading(2, 2, 0, 2), 0);
        Check.due("weights(2)", x.weights(2), 1 << 7 | 1 << 8);
        Check.due("kinds(2)", x.kinds(2), 4);
        Check.due("creaks(2)", x.creaks(2), 3);
    }

    private static void oneStillKitten() {
        BumpDiary x = Check.housed(HOUSE);
        Check.due("reading", x.reading(1, 4, 0, 0), 0);
        Check.due("weights(1)", x.weights(1), 15);
        Check.due("kinds(1)", x.kinds(1), 6);
        Check.due("creaks(4)", x.creaks(4), 7);
        BumpDiary y = Check.housed(HOUSE);
        Check.due("reading at the other pen", y.reading(1, 4, 1, 3), 0);
        Check.due("weights(1)", y.weights(1), 1 << 3);
        y.carry(0, 4);
        Check.due("weights(1), a pen that nothing is read of is carried", y.weights(1), 1 << 3);
    }

    private static void allReadingsMustBeSo() {
        BumpDiary x = Check.housed(HOUSE);
        x.reading(0, 0, 0, 8);
        x.reading(2, 2, 0, 2);
        Check.due("weights(0)", x.weights(0), 1 << 5);
        Check.due("creaks(2)", x.creaks(2), 3);
        x.reading(3, 2, 0, 9);
        Check.due("weights of one whose readings are so", x.weights(0), 0);
        Check.due("kinds of one whose readings are so", x.kinds(0), 0);
        Check.due("weights that would be 10", x.weights(3), 0);
        Check.due("creaks that would be 10", x.creaks(2), 0);
        Check.due("creaks of another", x.creaks(5), 0);
        BumpDiary y = Check.housed(HOUSE);
        y.reading(0, 1, 0, 6);
        Check.due("weight 7 in place of 5 alone", y.weights(0), 1 << 7);
        Check.due("creak 2 in place of 0 alone", y.creaks(1), 1 << 2);
        Check.due("of no kind", y.kinds(0), 0);
        Check.due("another's weight mends nothing", y.weights(1), 0);
    }

    /** A reading is asked of pens, weights and creaks as they are now. */
    private static void nowNotThen() {
        BumpDiary x = Check.housed(HOUSE);
        x.reading(0, 0, 0, 8);
        x.step(0, 1);
        x.leap(9);
        Check.due("where one is does not matter, nor how much a leap adds", x.weights(0), 1 << 5);
        x.carry(0, 1);
        Check.due("the pen is one off", x.weights(0), 1 << 6);
        x.oil(0, 4);
        Check.due("the board creaks more", x.weights(0), 1 << 5);
        x.dine(0, 4);
        Check.due("the weight does not matter", x.weights(0), 1 << 5);
        Check.due("the weight matters", x.creaks(0), 1 << 5);
    }

    private static void refusalsOfSets() {
        BumpDiary x = Check.housed(HOUSE);
        for (int number : new int[] {-1, 6, 8, MIN, MAX}) {
            Check.due("weights(" + number + ")", x.weights(number), -1);
            Check.due("kinds(" + number + ")", x.kinds(number), -1);
            Check.due("creaks(" + number + ")", x.creaks(number), -1);
        }
        Check.due("weights(4)", x.weights(4), -1);
        Check.due("kinds(4)", x.kinds(4), -1);
        Check.due("creaks(5)", x.creaks(5), 1023);
    }

    private static void share(BumpDiary x, int v, int upper, int lower) {
        Check.due("odds(0, " + v + ", 0)", x.odds(0, v, 0), upper);
        Check.due("odds(0, " + v + ", 1)", x.odds(0, v, 1), lower);
    }

    private static void odds() {
        BumpDiary one = Check.housed("s100;w02,0");
        share(one, 0, 1, 1);
        share(one, 1, 1, 1);
        share(one, 2, 1, 2);
        share(one, 3, 0, 1);
        share(one, 99, 0, 1);
        BumpDiary two = Check.housed("s100;w02;w12,0");
        long state = Check.stateOf(two);
        share(two, 2, 1, 1);
        share(two, 3, 3, 4);
        share(two, 4, 1, 4);
        share(two, 5, 0, 1);
        Check.due("state after odds", Check.stateOf(two), state);
        BumpDiary three = Check.housed("s0000;w15;w15,1");
        share(three, 8, 1, 1);
        share(three, 9, 5, 9);
        share(three, 10, 1, 9);
    }

    /** Each bumps by 17, 27 or 16. */
    private static void oddsOfFour() {
        BumpDiary x = Check.housed("s9999;w09;w09;w09;w09,2");
        share(x, 99, 1, 81);
        share(x, 98, 5, 81);
        share(x, 97, 1, 9);
        share(x, 64, 1, 1);
        share(x, 65, 80, 81);
        BumpDiary mid = Check.housed("s000000;w20;w20;w20;w21,2");
        // Only the hop of the last bumps.
        share(mid, 1, 1, 5);
        share(mid, 2, 0, 1);
    }

    private static void refusalsOfOdds() {
        BumpDiary x = Check.housed(HOUSE);
        long lost = Long.MIN_VALUE;
        x.put(0, 0, 0);
        Check.due("odds(2, 0, 0)", x.odds(2, 0, 0), lost);
        Check.due("odds(-1, 0, 0)", x.odds(-1, 0, 0), lost);
        Check.due("odds(0, 100, 0)", x.odds(0, 100, 0), lost);
        Check.due("odds(0, -1, 0)", x.odds(0, -1, 0), lost);
        Check.due("odds(0, MIN, 0)", x.odds(0, MIN, 0), lost);
        Check.due("odds(0, 0, 2)", x.odds(0, 0, 2), lost);
        Check.due("odds(0, 0, -1)", x.odds(0, 0, -1), lost);
        Check.due("odds name no fault", x.fault(), 1);
    }
}
