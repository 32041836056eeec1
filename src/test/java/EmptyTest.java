/** The empty: a new object, nothing on a sheet, rows of no cells, an n of 0, no readings, nothing drawn, no moves. */
public final class EmptyTest {
    private static final int MIN = Integer.MIN_VALUE, MAX = Integer.MAX_VALUE;
    private static final int[] NUMBERS = {0, 1, 2, 3, 7, -1, MIN, MAX};
    private static final int UNKNOWN = -1, OUTSIDE = -2, STATE = -3, NULL = -11, INDEX = -13, NONE = -9;

    public static void main(String[] args) {
        nobodyAndNoBoard();
        nothingToTellOfNoHouse();
        sheetsHaveNothing();
        rowsOfNoCells();
        fromTheEndOn();
        textOfNoCodes();
        nightOfNoMinutes();
        lineOfNoBumps();
        noPages();
        noReadings();
        nothingDrawn();
        noWay();
        Check.end();
    }

    /** "No HOUSE (no BOARDS, DOERS, PENS)": whatever is asked of one of them, and be another number wrong, too. */
    private static void nobodyAndNoBoard() {
        for (int number : NUMBERS) {
            for (int other : new int[] {0, 99}) {
                Later.refused(Scene.NEW, UNKNOWN, "ofDoer", number, other);
                Later.refused(Scene.NEW, UNKNOWN, "ofPen", number, other);
                Later.refused(Scene.NEW, UNKNOWN, "oil", number, other);
                Later.refused(Scene.NEW, UNKNOWN, "dine", number, other);
                Later.refused(Scene.NEW, UNKNOWN, "carry", number, other);
                Later.refused(Scene.NEW, UNKNOWN, "carry", 0, number);
                Later.refused(Scene.NEW, UNKNOWN, "bump", number, 0, other);
                Later.refused(Scene.NEW, UNKNOWN, "bump", 0, number, other);
                Later.refused(Scene.NEW, UNKNOWN, "step", number, other);
                Later.refused(Scene.NEW, UNKNOWN, "night", number, 0, 0, 0, other, 0);
                Later.refused(Scene.NEW, UNKNOWN, "quiet", number, 0, other);
                Later.refused(Scene.NEW, UNKNOWN, "meet", number, 1, other);
                Later.refused(Scene.NEW, UNKNOWN, "fits", number, 0, 0, 0, other, 0);
                Later.refused(Scene.NEW, UNKNOWN, "loud", number, other);
                Later.refused(Scene.NEW, UNKNOWN, "reading", number, 0, 0, other);
                Later.refused(Scene.NEW, UNKNOWN, "odds", number, other, 0);
                Later.refused(Scene.NEW, UNKNOWN, "as", number, other);
            }
            for (String name : new String[] {"creak", "weights", "kinds", "creaks", "tell", "hear"}) {
                Later.refused(Scene.NEW, UNKNOWN, name, number);
            }
        }
    }

    /** "(0 all without a HOUSE)", "STATE: there is no HOUSE", "(0 ahead of any)", "(.. 0 at first ..)". */
    private static void nothingToTellOfNoHouse() {
        Counted x = new Counted();
        x.due(0, "fault");
        x.due(0, "trace");
        for (int what = 0; what < 5; what++) {
            x.due(0, "many", what);
        }
        x.due(0, "back", 0);
        for (int v = 0; v < 10; v++) {
            Later.refused(Scene.NEW, STATE, "leap", v);
        }
        Later.refused(Scene.NEW, STATE, "paper");
        Later.refused(Scene.NEW, STATE, "part");
        for (int number : new int[] {-1, 5, MIN, MAX}) {
            Later.refused(Scene.NEW, OUTSIDE, "many", number);
        }
        for (int number : new int[] {-1, 1, MIN, MAX}) {
            Later.refused(Scene.NEW, OUTSIDE, "back", number);
        }
        for (int number : new int[] {-1, 10, MIN, MAX}) {
            Later.refused(Scene.NEW, OUTSIDE, "leap", number);
        }
    }

    /** "SHEETS 0 .. 3 have nothing (at first)". */
    private static void sheetsHaveNothing() {
        for (int k = 0; k < 4; k++) {
            for (int lane = 0; lane < 3; lane++) {
                for (int i : NUMBERS) {
                    Later.refused(Scene.NEW, NULL, "cell", k, i, lane);
                    Later.refused(Scene.NEW, NULL, "house", k, lane, i, i);
                    Later.refused(Scene.NEW, NULL, "joins", k, lane, i, 0, 0);
                }
            }
            for (int i : NUMBERS) {
                Later.refused(Scene.NEW, NULL, "put", k, i, i);
                Later.refused(Scene.NEW, NULL, "copy", k, i, 3 - k, i, i);
                Later.refused(Scene.NEW, NULL, "copy", k, 0, k, 0, i);
            }
            Counted x = new Counted();
            x.due(0, "lose", k);
            x.due(1, "sheet", k, 0, 1);
            x.due(1, "lose", k);
            x.due(0, "lose", k);
            x.due(NULL, "put", k, 0, 0);
            x.due(1, "sheet", k, 2, 0);
            x.due(1, "lose", k);
            x.due(NULL, "copy", k, 0, k, 0, 0);
        }
    }

    /** "a row of 0 .. 60 numbers": a row of none is not nothing. */
    private static void rowsOfNoCells() {
        for (int lane = 0; lane < 3; lane++) {
            Counted x = Counted.housed(Scene.SMALLEST_TEXT);
            x.fill(0, lane);
            for (int i : NUMBERS) {
                x.due(INDEX, "put", 0, i, 1);
                x.due(Counted.LOST, "cell", 0, i, lane);
                x.due(3, "fault");
            }
            x.due(-100, "house", 0, lane, 0, 0);
            x.due(0, "night", 0, 0, lane, 0, 0, 0);
            x.due(1, "fits", 0, 0, lane, 0, 0, 0);
            x.due(1, "joins", 0, lane, 0, 0, 0);
            x.due(0, "copy", 0, 0, 0, 0, 0);
            x.due(0, "fault");
            for (int i : new int[] {1, -1, MIN, MAX}) {
                x.due(INDEX, "house", 0, lane, i, 0);
                x.due(INDEX, "night", 0, 0, lane, i, 0, 0);
                x.due(INDEX, "fits", 0, 0, lane, i, 0, 0);
                x.due(INDEX, "joins", 0, lane, i, 0, 0);
                x.due(INDEX, "copy", 0, i, 0, 0, 0);
                x.due(INDEX, "copy", 0, 0, 0, i, 0);
                x.due(3, "fault");
            }
            x.due(INDEX, "copy", 0, 0, 0, 0, 1);
            x.due(INDEX, "house", 0, lane, 0, 1);
        }
    }

    /** "INDEX (of cells from i on also where i is not 0 .. how many there are, if none of them is taken, too)". */
    private static void fromTheEndOn() {
        for (int length : new int[] {1, 2, 59, 60}) {
            Counted x = Counted.housed(Scene.SMALLEST_TEXT);
            x.due(1, "sheet", 0, 1, length);
            for (int i : new int[] {0, length - 1, length}) {
                x.due(-100, "house", 0, 1, i, 0);
                x.due(0, "night", 0, 0, 1, i, 0, 0);
                x.due(1, "fits", 0, 0, 1, i, 0, 0);
                x.due(1, "joins", 0, 1, i, 0, 0);
                x.due(0, "copy", 0, i, 0, length - i, 0);
                x.due(0, "fault");
            }
            for (int i : new int[] {-1, length + 1, MIN, MAX}) {
                x.due(INDEX, "house", 0, 1, i, 0);
                x.due(INDEX, "night", 0, 0, 1, i, 0, 0);
                x.due(INDEX, "fits", 0, 0, 1, i, 0, 0);
                x.due(INDEX, "joins", 0, 1, i, 0, 0);
                x.due(INDEX, "copy", 0, i, 0, 0, 0);
                x.due(INDEX, "copy", 0, 0, 0, i, 0);
                x.due(3, "fault");
            }
        }
    }

    /** "how many codes there are, if it just ends too soon": of none 0. What the house was, it still is. */
    private static void textOfNoCodes() {
        Later.refused(Scene.BUSY, -100, "house", Scene.TEXT, 0, 0, 0);
        Later.refused(Scene.BUSY, -100, "house", Scene.TEXT, 0, 32, 0);
        Later.refused(Scene.SMALLEST, -100, "house", 0, 2, 12, 0);
    }

    /** "NONE: no MINUTES", "NONE: there is no such DOER", "NONE: there is no such MINUTE", "FIRST WRONG (1; NONE)". */
    private static void nightOfNoMinutes() {
        Counted x = Scene.SMALLEST.make();
        x.due(0, "night", 0, 0, 2, 0, 0, 0);
        x.due(NONE, "night", 0, 0, 2, 0, 0, 1);
        x.due(NONE, "night", 0, 0, 2, 0, 0, 2);
        x.due(0, "night", 0, 0, 2, 0, 0, 3);
        x.due(0, "night", 0, 0, 2, 0, 0, 10);
        for (int d = 1; d < 4; d++) {
            x.due(NONE, "night", 0, 0, 2, 0, 0, 10 + d);
        }
        for (int m = 0; m < 20; m++) {
            x.due(NONE, "night", 0, 0, 2, 0, 0, 20 + m);
            x.due(m == 0 ? 8 : NONE, "night", 0, 0, 2, 0, 1, 20 + m);
        }
        x.due(0, "fault");
        Counted four = Scene.BUSY.make();
        int[] boards = {0, 3, 3, 7};
        for (int d = 0; d < 4; d++) {
            four.due(boards[d], "night", 0, 0, 2, 12, 0, 10 + d);
        }
    }

    /** FITS of no BUMPS: each doer's row of no moves; it has no MOVE 0. */
    private static void lineOfNoBumps() {
        Counted x = Scene.BUSY.make();
        x.due(4, "fits", 0, 0, 2, 0, 0, 0);
        x.due(0, "fits", 0, 0, 2, 0, 0, 1);
        Counted one = Scene.SMALLEST.make();
        one.due(1, "fits", 0, 0, 2, 12, 0, 0);
        one.due(0, "fits", 0, 0, 2, 12, 0, 1);
        for (int k = 0; k < 4; k++) {
            x.due(NONE, "fits", 0, 0, 2, 0, 0, 10 + k);
            one.due(NONE, "fits", 0, 0, 2, 12, 0, 10 + k);
        }
        // "NONE: there is none": nobody bumps by less than nothing.
        one.due(1, "put", 0, 0, -1);
        one.due(0, "fits", 0, 0, 2, 0, 1, 0);
        one.due(NONE, "fits", 0, 0, 2, 0, 1, 1);
        one.due(NONE, "fits", 0, 0, 2, 0, 1, 10);
    }

    /** "how many orders (what 0; of no PAGES 1)", and "NONE: there is none, no such place". */
    private static void noPages() {
        Counted x = new Counted();
        x.fill(0, 0, 1, 2, 3, 4);
        x.due(1, "joins", 0, 0, 0, 0, 0);
        x.due(1, "joins", 0, 0, 4, 0, 0);
        x.due(1, "joins", 0, 0, 0, 1, 0);
        x.due(0, "joins", 0, 0, 0, 1, 10);
        x.due(0, "joins", 0, 0, 0, 2, 0);
        for (int k = 0; k < 5; k++) {
            x.due(NONE, "joins", 0, 0, 0, 0, 10 + k);
            x.due(k == 0 ? 0 : NONE, "joins", 0, 0, 0, 1, 10 + k);
            x.due(NONE, "joins", 0, 0, 0, 2, 10 + k);
        }
    }

    /** By no READINGS all is so: every weight, kind and creak. */
    private static void noReadings() {
        Counted x = Scene.BUSY.make();
        x.due(3, "many", 4);
        x.due(0, "back", 3);
        x.due(0, "many", 4);
        x.due(0, "back", 0);
        x.due(OUTSIDE, "back", 1);
        for (int d = 0; d < 4; d++) {
            x.due(1023, "weights", d);
            x.due(7, "kinds", d);
        }
        for (int b = 0; b < 8; b++) {
            x.due(1023, "creaks", b);
        }
        x.due(0, "reading", 0, 0, 0, 0);
    }

    /** "2 the HIGHEST BUMP (0: none)", "how many PENS had anything above 0 DRAWN". */
    private static void nothingDrawn() {
        Counted x = Counted.housed("s000000000;w00,0,1,7");
        x.due(0, "paper");
        // A hop without weight is drawn as 0, which is nothing above 0.
        x.due(0, "step", 0, 4);
        for (int p = 0; p < 3; p++) {
            x.due(0, "ofPen", p, 1);
            x.due(0, "ofPen", p, 2);
        }
        x.due(0, "paper");
        x.due(0, "dine", 0, 1);
        x.due(0, "step", 0, 4);
        x.due(1, "ofPen", 0, 1);
        x.due(0, "ofPen", 1, 1);
        x.due(1, "paper");
        x.due(1, "dine", 0, 2);
        x.due(0, "step", 0, 4);
        x.due(2, "paper");
        x.due(2, "dine", 0, 8);
        x.due(0, "step", 0, 4);
        x.due(1, "ofPen", 2, 1);
        x.due(3, "paper");
        for (int p = 0; p < 3; p++) {
            x.due(0, "ofPen", p, 1);
            x.due(0, "ofPen", p, 2);
        }
        x.due(0, "paper");
    }

    /** "(to where one is: of none)"; "UNKNOWN: DOERS, one with oneself": alone one meets nobody. */
    private static void noWay() {
        Counted x = Scene.BUSY.make();
        int[] boards = {0, 3, 3, 7};
        for (int d = 0; d < 4; d++) {
            x.due(0, "quiet", d, boards[d], -2);
            x.due(0, "quiet", d, boards[d], -1);
            for (int k = 0; k < 8; k++) {
                x.due(NONE, "quiet", d, boards[d], k);
            }
            Later.refused(Scene.BUSY, UNKNOWN, "meet", d, d, 0);
            Later.refused(Scene.BUSY, UNKNOWN, "meet", d, d, 2);
        }
        for (int number : NUMBERS) {
            Later.refused(Scene.SMALLEST, UNKNOWN, "meet", 0, number, 0);
            Later.refused(Scene.SMALLEST, UNKNOWN, "meet", number, 0, 2);
        }
        // Two who are on one board meet there by no moves.
        x.due(3, "meet", 1, 2, 0);
        x.due(0, "meet", 1, 2, 1);
    }
}
