/** The full: the largest house, rows of 60 cells, 20 minutes, 4 bumps, 5 pages, 8 readings, 512 calls; and one more. */
public final class FullTest {
    private static final int OUTSIDE = -2, FULL = -4, INDEX = -13, NONE = -9;

    public static void main(String[] args) {
        largestTextAtTheEndOfARow();
        sheetsOfSixtyCells();
        copyOfSixtyCells();
        nightOfTwentyMinutes();
        lineOfFourBumps();
        fivePages();
        eightReadings();
        eachOfEightReadingsCounts();
        wayOfSevenMoves();
        oddsOfMostRows();
        loudestOfAll();
        allIsMadeAnew();
        lastCall();
        Check.end();
    }

    private static void largestTextAtTheEndOfARow() {
        for (int lane = 0; lane < 3; lane++) {
            Counted x = new Counted();
            x.due(1, "sheet", 0, lane, 60);
            for (int k = 0; k < 32; k++) {
                x.due(1, "put", 0, 28 + k, Scene.LARGEST_TEXT.charAt(k));
            }
            x.due(INDEX, "house", 0, lane, 29, 32);
            x.due(INDEX, "house", 0, lane, 28, 33);
            x.due(-100, "house", 0, lane, 27, 33);
            x.due(-100, "house", 0, lane, 0, 60);
            x.due(-131, "house", 0, lane, 28, 31);
            x.due(0, "many", 0);
            x.due(4, "house", 0, lane, 28, 32);
            x.due(4, "many", 0);
            x.due(3, "many", 1);
            x.due(8, "many", 2);
        }
    }

    /** "a row of 0 .. 60 numbers (0 at first)"; four of them at once, each by itself. */
    private static void sheetsOfSixtyCells() {
        Counted x = new Counted();
        for (int k = 0; k < 4; k++) {
            x.due(1, "sheet", k, 2, 60);
            x.due(OUTSIDE, "sheet", k, 2, 61);
            for (int i = 0; i < 60; i++) {
                x.due(1, "put", k, i, 100 * k + i + 1);
            }
            x.due(INDEX, "put", k, 60, 7);
        }
        for (int k = 0; k < 4; k++) {
            for (int i : new int[] {0, 1, 30, 58, 59}) {
                x.due(100 * k + i + 1, "cell", k, i, 2);
            }
            x.due(Counted.LOST, "cell", k, 60, 2);
        }
        // A shorter row has fewer cells, and one that is made longer again has no old numbers.
        x.due(1, "sheet", 1, 2, 59);
        x.due(Counted.LOST, "cell", 1, 59, 2);
        x.due(1, "sheet", 1, 2, 60);
        for (int i = 0; i < 60; i++) {
            x.due(0, "cell", 1, i, 2);
        }
        x.due(60, "cell", 0, 59, 2);
        x.due(201, "cell", 2, 0, 2);
        x.due(1, "lose", 2);
        x.due(1, "sheet", 2, 2, 60);
        x.due(0, "cell", 2, 0, 2);
        x.due(0, "cell", 2, 59, 2);
        x.due(301, "cell", 3, 0, 2);
    }

    private static void copyOfSixtyCells() {
        Counted x = new Counted();
        x.due(1, "sheet", 3, 1, 60);
        x.due(1, "sheet", 2, 1, 60);
        x.due(1, "sheet", 1, 1, 59);
        for (int i = 0; i < 60; i++) {
            x.due(1, "put", 3, i, i - 30);
        }
        x.due(INDEX, "copy", 3, 0, 1, 0, 60);
        x.due(INDEX, "copy", 1, 0, 3, 0, 60);
        x.due(INDEX, "copy", 3, 0, 2, 0, 61);
        x.due(INDEX, "copy", 3, 1, 2, 0, 60);
        x.due(INDEX, "copy", 3, 0, 2, 1, 60);
        x.due(60, "copy", 3, 0, 2, 0, 60);
        x.due(59, "copy", 3, 1, 1, 0, 59);
        for (int i = 0; i < 60; i++) {
            x.due(i - 30, "cell", 2, i, 1);
            x.due(i - 30, "cell", 3, i, 1);
            if (i < 59) {
                x.due(i - 29, "cell", 1, i, 1);
            }
        }
    }

    /** "n (0 .. 20)", "the BUMP in MINUTE m (20 and m ..)": 40 cells, the last of a row of 60. */
    private static void nightOfTwentyMinutes() {
        Counted x = Counted.housed("s013;w00,0");
        x.due(1, "sheet", 0, 0, 60);
        // Hops of 1, but the last minute's, which is a step to board 1.
        for (int m = 0; m < 20; m++) {
            x.due(1, "put", 0, 20 + 2 * m + 1, m < 19 ? 4 : 1);
        }
        x.due(OUTSIDE, "night", 0, 0, 0, 20, 21, 0);
        x.due(INDEX, "night", 0, 0, 0, 21, 20, 0);
        x.due(21, "night", 0, 0, 0, 20, 20, 0);
        x.due(NONE, "night", 0, 0, 0, 20, 20, 1);
        x.due(19, "night", 0, 0, 0, 20, 20, 2);
        x.due(0, "night", 0, 0, 0, 20, 20, 3);
        x.due(1, "night", 0, 0, 0, 20, 20, 10);
        x.due(1, "night", 0, 0, 0, 20, 20, 20);
        x.due(2, "night", 0, 0, 0, 20, 20, 39);
        x.due(1, "night", 0, 0, 0, 20, 19, 38);
        x.due(NONE, "night", 0, 0, 0, 20, 19, 39);
        x.due(OUTSIDE, "night", 0, 0, 0, 20, 20, 40);
        // The last minute is the first wrong one.
        x.due(1, "put", 0, 59, 0);
        x.due(19, "night", 0, 0, 0, 20, 20, 1);
        x.due(-119, "night", 0, 0, 0, 20, 20, 0);
        x.due(-119, "night", 0, 0, 0, 20, 20, 39);
        x.due(NONE, "night", 0, 0, 0, 20, 19, 1);
        // The last pair is refused.
        x.due(1, "put", 0, 59, 5);
        x.due(OUTSIDE, "night", 0, 0, 0, 20, 20, 1);
        x.due(1, "put", 0, 58, 1);
        x.due(-1, "night", 0, 0, 0, 20, 20, 1);
        // Still all night: twenty minutes without a bump.
        x.due(1, "oil", 0, 0);
        x.due(1, "put", 0, 59, 4);
        x.due(1, "put", 0, 58, 0);
        x.due(20, "night", 0, 0, 0, 20, 20, 3);
        x.due(0, "night", 0, 0, 0, 20, 20, 2);
    }

    /** "FITS of a LINE (up to 4 BUMPS)": the last four cells of 60; all 2 * 2 * 2 * 2 rows are still. */
    private static void lineOfFourBumps() {
        Counted x = Counted.housed("s000;w00;w19,0");
        x.due(1, "sheet", 0, 2, 60);
        x.due(OUTSIDE, "fits", 0, 0, 2, 55, 5, 0);
        x.due(INDEX, "fits", 0, 0, 2, 57, 4, 0);
        x.due(16, "fits", 0, 0, 2, 56, 4, 0);
        x.due(0, "fits", 0, 0, 2, 56, 4, 1);
        int[] still = {1, 0, 1, 0};
        for (int k = 0; k < 4; k++) {
            x.due(still[k], "fits", 0, 0, 2, 56, 4, 10 + k);
            x.due(k < 3 ? still[k] : NONE, "fits", 0, 0, 2, 57, 3, 10 + k);
        }
        x.due(OUTSIDE, "fits", 0, 0, 2, 56, 4, 14);
        int[] line = {9, 9, 8, 8};
        for (int k = 0; k < 4; k++) {
            x.due(1, "put", 0, 56 + k, line[k]);
        }
        x.due(1, "fits", 0, 0, 2, 56, 4, 0);
        x.due(1, "fits", 0, 0, 2, 56, 4, 1);
        int[] row = {0, 4, 1, 4};
        for (int k = 0; k < 4; k++) {
            x.due(row[k], "fits", 0, 0, 2, 56, 4, 10 + k);
        }
        // The fourth bump decides, too.
        x.due(1, "put", 0, 59, 7);
        x.due(0, "fits", 0, 0, 2, 56, 4, 0);
        x.due(1, "fits", 0, 0, 2, 56, 3, 0);
    }

    /** "JOINS of up to 5 PAGES": ten cells, the last of a row of 60. */
    private static void fivePages() {
        Counted x = new Counted();
        x.due(1, "sheet", 0, 1, 60);
        x.due(OUTSIDE, "joins", 0, 1, 48, 6, 0);
        x.due(INDEX, "joins", 0, 1, 51, 5, 0);
        x.due(120, "joins", 0, 1, 50, 5, 0);
        for (int k = 0; k < 5; k++) {
            x.due(k, "joins", 0, 1, 50, 5, 10 + k);
            x.due(k < 4 ? k : NONE, "joins", 0, 1, 50, 4, 10 + k);
        }
        x.due(OUTSIDE, "joins", 0, 1, 50, 5, 15);
        // Each begins as the one behind it ends, so there is but one order, from the last to the first.
        for (int page = 0; page < 5; page++) {
            x.due(1, "put", 0, 50 + 2 * page, 10 - page);
            x.due(1, "put", 0, 51 + 2 * page, 11 - page);
        }
        x.due(1, "joins", 0, 1, 50, 5, 0);
        for (int k = 0; k < 5; k++) {
            x.due(4 - k, "joins", 0, 1, 50, 5, 10 + k);
        }
        // The last page joins no other.
        x.due(1, "put", 0, 59, 99);
        x.due(0, "joins", 0, 1, 50, 5, 0);
        x.due(NONE, "joins", 0, 1, 50, 5, 10);
        x.due(1, "joins", 0, 1, 50, 4, 0);
    }

    /** "READINGS, 8 at most", "FULL", "(0 .. as many as there are)". */
    private static void eightReadings() {
        Counted x = Counted.housed(Scene.LARGEST_TEXT);
        for (int k = 0; k < 8; k++) {
            x.due(OUTSIDE, "back", k + 1);
            x.due(k, "reading", 0, 0, 0, 8);
            x.due(k + 1, "many", 4);
        }
        for (int more = 0; more < 3; more++) {
            x.due(FULL, "reading", 3, 7, 2, 29);
            x.due(8, "many", 4);
        }
        x.due(1 << 5, "weights", 0);
        x.due(OUTSIDE, "back", 9);
        x.due(8, "back", 0);
        x.due(7, "back", 1);
        x.due(7, "reading", 0, 0, 0, 8);
        x.due(FULL, "reading", 0, 0, 0, 8);
        x.due(0, "back", 8);
        x.due(OUTSIDE, "back", 1);
        x.due(0, "reading", 0, 0, 0, 8);
        x.due(0, "back", 1);
        Later.refused(Scene.FULL, FULL, "reading", 0, 0, 0, 0);
        Later.refused(Scene.FULL, FULL, "reading", 3, 7, 2, 29);
    }

    /** "by which all READINGS are so": one of eight that is not so, be it which it may, leaves nothing. */
    private static void eachOfEightReadingsCounts() {
        for (int odd = 0; odd < 8; odd++) {
            Counted x = Counted.housed(Scene.LARGEST_TEXT);
            for (int k = 0; k < 8; k++) {
                x.due(k, "reading", 0, 0, 0, k == odd ? 9 : 8);
            }
            x.due(0, "weights", 0);
            x.due(0, "creaks", 0);
            x.due(0, "kinds", 0);
            x.due(0, "weights", 1);
            x.due(odd, "back", 8 - odd);
            x.due(odd == 0 ? 1023 : 1 << 5, "weights", 0);
            x.due(odd == 0 ? 1023 : 1 << 3, "creaks", 0);
            x.due(odd == 0 ? 7 : 1, "kinds", 0);
            x.due(1023, "weights", 1);
        }
    }

    /** "MOVE k of the row (0 .. 7); NONE: there is no such MOVE": seven steps are the longest row that is quiet. */
    private static void wayOfSevenMoves() {
        Counted x = Counted.housed("s900000000;w00;w70,0");
        x.due(0, "quiet", 0, 7, -2);
        x.due(7, "quiet", 0, 7, -1);
        x.due(7, "quiet", 1, 0, -1);
        for (int k = 0; k < 7; k++) {
            x.due(1, "quiet", 0, 7, k);
            x.due(0, "quiet", 1, 0, k);
        }
        x.due(NONE, "quiet", 0, 7, 7);
        x.due(NONE, "quiet", 1, 0, 7);
        x.due(NONE, "quiet", 0, 6, 6);
        x.due(OUTSIDE, "quiet", 0, 7, 8);
        x.due(OUTSIDE, "quiet", 0, 7, -3);
    }

    /** Four doers of five moves each: 625 rows, of which one is 108 (99 and more), and four more are 95. */
    private static void oddsOfMostRows() {
        Counted x = Counted.housed("s900009;w29;w29;w29;w29,4");
        share(x, 99, 1, 625);
        share(x, 96, 1, 625);
        share(x, 95, 1, 125);
        share(x, 0, 1, 1);
        x.due(Counted.LOST, "odds", 0, 100, 0);
        x.due(Counted.LOST, "odds", 0, 99, 2);
        Counted least = Counted.housed("s000;w01,0");
        share(least, 0, 1, 1);
        share(least, 1, 1, 2);
        share(least, 2, 0, 1);
        share(least, 99, 0, 1);
    }

    private static void share(Counted x, int v, int upper, int lower) {
        x.due(upper, "odds", 0, v, 0);
        x.due(lower, "odds", 0, v, 1);
    }

    /** 9 and 9 and a leap of 9. */
    private static void loudestOfAll() {
        Counted x = Counted.housed("s9999;w09,2");
        x.due(27, "loud", 0, 0);
        x.due(0, "loud", 0, 1);
        x.due(3, "loud", 0, 2);
        x.due(2, "step", 0, 3);
        x.due(27, "ofPen", 0, 1);
        x.due(27, "ofPen", 0, 2);
        x.due(0, "reading", 0, 2, 0, 18);
        x.due(1 << 9, "weights", 0);
        x.due(1 << 9, "creaks", 2);
        x.due(1, "reading", 0, 2, 0, 19);
        x.due(0, "weights", 0);
    }

    /** "A TEXT that is taken makes all anew: nothing is DRAWN, no READINGS." Only sheets and trace are as they were. */
    private static void allIsMadeAnew() {
        Counted used = Scene.FULL.make();
        used.due(4, "house", Scene.TEXT, 0, 0, 32);
        Counted fresh = Counted.housed(Scene.LARGEST_TEXT);
        fresh.fill(0, 2, Scene.PAIRS);
        fresh.fill(1, 1, Scene.PAGES);
        fresh.due(30, "hear", 2);
        fresh.due(103, "tell", 1);
        Check.holds("all is made anew", Later.answersOf(used).equals(Later.answersOf(fresh)));
        Counted less = Scene.FULL.make();
        less.fill(2, 0, Scene.SMALLEST_TEXT);
        less.due(1, "house", 2, 0, 0, 10);
        int[] many = {1, 1, 2, 2, 0};
        for (int what = 0; what < 5; what++) {
            less.due(many[what], "many", what);
        }
        less.due(0, "ofPen", 0, 1);
        less.due(0, "ofPen", 0, 2);
        less.due(0, "paper");
        less.due(-1, "ofPen", 1, 0);
        less.due(-1, "ofDoer", 1, 0);
        less.due(-1, "creak", 2);
        // What a pen drew in an earlier house is not drawn in a later one that has that pen again.
        less.due(4, "house", Scene.TEXT, 0, 0, 32);
        for (int p = 0; p < 3; p++) {
            less.due(0, "ofPen", p, 1);
            less.due(0, "ofPen", p, 2);
        }
        less.due(0, "paper");
    }

    /** "An object is used for at most 512 calls": the last is answered as the first was. */
    private static void lastCall() {
        Counted x = Counted.housed("s099;w09,0");
        int hops = 0;
        while (x.made() < 510) {
            x.due(0, "step", 0, 4);
            hops++;
        }
        x.due(18 * hops, "ofPen", 0, 1);
        x.due(18, "ofPen", 0, 2);
        Check.due("calls", x.made(), 512);
    }
}
