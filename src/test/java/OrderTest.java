import java.util.ArrayList;
import java.util.List;

/**
 * Each refusal and each fault of each call by itself, and every two and more of them that can meet: the first in the
 * order that the document tells is answered, and nothing changes.
 */
public final class OrderTest {
    private static final int MIN = Integer.MIN_VALUE, MAX = Integer.MAX_VALUE;
    private static final int UNKNOWN = -1, OUTSIDE = -2, STATE = -3, FULL = -4;
    private static final int NULL = -11, CAST = -12, INDEX = -13, SIZE = -14;

    /** What is answered if this argument has this value and nothing ahead of it is wrong. */
    private record Wrong(int code, int at, int value) {
    }

    public static void main(String[] args) {
        houses();
        changes();
        moves();
        nights();
        fits();
        joins();
        readings();
        sheets();
        cells();
        copies();
        kinds();
        nothingIsNoCast();
        pairByPair();
        Check.end();
    }

    private static Wrong wrong(int code, int at, int value) {
        return new Wrong(code, at, value);
    }

    /** "UNKNOWN; OUTSIDE: lane; FAULTS CAST, NULL, SIZE: n is below 0, INDEX: not all cells are there; -100 less it." */
    private static void houses() {
        order(Scene.BUSY, "house", new int[] {Scene.TEXT, 0, 0, 32},
            wrong(UNKNOWN, 0, 4), wrong(UNKNOWN, 0, -1),
            wrong(OUTSIDE, 1, 3), wrong(OUTSIDE, 1, -1),
            wrong(CAST, 1, 1), wrong(CAST, 1, 2),
            wrong(NULL, 0, Scene.NOTHING),
            wrong(SIZE, 3, -1), wrong(SIZE, 3, MIN),
            wrong(INDEX, 2, -1), wrong(INDEX, 2, 33), wrong(INDEX, 2, MAX), wrong(INDEX, 3, 33), wrong(INDEX, 3, MAX),
            wrong(-131, 3, 31), wrong(-100, 3, 0));
    }

    private static void changes() {
        order(Scene.BUSY, "ofDoer", new int[] {0, 0}, wrong(UNKNOWN, 0, 4), wrong(OUTSIDE, 1, 4));
        order(Scene.BUSY, "ofPen", new int[] {0, 0}, wrong(UNKNOWN, 0, 3), wrong(OUTSIDE, 1, 3));
        order(Scene.BUSY, "oil", new int[] {0, 0}, wrong(UNKNOWN, 0, 8), wrong(OUTSIDE, 1, 10));
        order(Scene.BUSY, "dine", new int[] {0, 0}, wrong(UNKNOWN, 0, 4), wrong(OUTSIDE, 1, 10));
        order(Scene.BUSY, "carry", new int[] {0, 0}, wrong(UNKNOWN, 0, 3), wrong(UNKNOWN, 1, 8));
        // "OUTSIDE; STATE: there is no HOUSE."
        order(Scene.NEW, "leap", new int[] {10}, wrong(OUTSIDE, 0, 10), wrong(OUTSIDE, 0, -1), wrong(STATE, 0, 9));
        Later.refused(Scene.NEW, STATE, "paper");
        Later.refused(Scene.NEW, STATE, "part");
    }

    /** "UNKNOWN: PEN, DOER; OUTSIDE; STATE: there is no such BOARD." Doer 0 is on the first board, 3 on the last. */
    private static void moves() {
        order(Scene.BUSY, "bump", new int[] {0, 1, 2},
            wrong(UNKNOWN, 0, 3), wrong(UNKNOWN, 1, 4), wrong(OUTSIDE, 2, 5), wrong(OUTSIDE, 2, -1), wrong(STATE, 1, 0));
        order(Scene.BUSY, "bump", new int[] {0, 1, 1},
            wrong(UNKNOWN, 0, 3), wrong(UNKNOWN, 1, 4), wrong(OUTSIDE, 2, 5), wrong(OUTSIDE, 2, -1), wrong(STATE, 1, 3));
        order(Scene.BUSY, "step", new int[] {1, 0},
            wrong(UNKNOWN, 0, 4), wrong(OUTSIDE, 1, 5), wrong(OUTSIDE, 1, -1), wrong(STATE, 0, 0));
        order(Scene.BUSY, "step", new int[] {1, 3},
            wrong(UNKNOWN, 0, 4), wrong(OUTSIDE, 1, 5), wrong(OUTSIDE, 1, -1), wrong(STATE, 0, 3));
        order(Scene.BUSY, "quiet", new int[] {0, 0, 0},
            wrong(UNKNOWN, 0, 4), wrong(UNKNOWN, 1, 8), wrong(OUTSIDE, 2, 8), wrong(OUTSIDE, 2, -3));
        order(Scene.BUSY, "meet", new int[] {0, 1, 0},
            wrong(UNKNOWN, 0, 4), wrong(UNKNOWN, 1, 4), wrong(UNKNOWN, 1, 0), wrong(OUTSIDE, 2, 2));
        order(Scene.BUSY, "loud", new int[] {0, 0}, wrong(UNKNOWN, 0, 3), wrong(OUTSIDE, 1, 3));
    }

    /** "UNKNOWN: PEN, SHEET; OUTSIDE: lane, n, what; FAULTS CAST, NULL, INDEX; pair by pair UNKNOWN ..; OUTSIDE .." */
    private static void nights() {
        order(Scene.BUSY, "night", new int[] {0, 0, 2, 0, 1, 0},
            wrong(UNKNOWN, 0, 3), wrong(UNKNOWN, 1, 4),
            wrong(OUTSIDE, 2, 3), wrong(OUTSIDE, 4, 21), wrong(OUTSIDE, 4, -1), wrong(OUTSIDE, 5, 4),
            wrong(CAST, 2, 1),
            wrong(NULL, 1, Scene.NOTHING),
            wrong(INDEX, 3, -1), wrong(INDEX, 3, 13), wrong(INDEX, 4, 20),
            wrong(UNKNOWN, 3, Scene.NO_DOER_AT), wrong(OUTSIDE, 3, Scene.NO_MOVE_AT),
            wrong(-100, 3, Scene.FIRST_WRONG_AT));
    }

    private static void fits() {
        order(Scene.BUSY, "fits", new int[] {0, 0, 2, 0, 1, 0},
            wrong(UNKNOWN, 0, 3), wrong(UNKNOWN, 1, 4),
            wrong(OUTSIDE, 2, 3), wrong(OUTSIDE, 4, 5), wrong(OUTSIDE, 4, -1), wrong(OUTSIDE, 5, 2),
            wrong(CAST, 2, 0),
            wrong(NULL, 1, Scene.NOTHING),
            wrong(INDEX, 3, -1), wrong(INDEX, 3, 12));
    }

    private static void joins() {
        order(Scene.BUSY, "joins", new int[] {1, 1, 0, 2, 0},
            wrong(UNKNOWN, 0, 4),
            wrong(OUTSIDE, 1, 3), wrong(OUTSIDE, 3, 6), wrong(OUTSIDE, 3, -1), wrong(OUTSIDE, 4, 1),
            wrong(CAST, 1, 2),
            wrong(NULL, 0, Scene.NOTHING),
            wrong(INDEX, 2, -1), wrong(INDEX, 2, 6), wrong(INDEX, 3, 3));
    }

    /** "UNKNOWN: DOER, BOARD, PEN; OUTSIDE: v; FULL." */
    private static void readings() {
        order(Scene.FULL, "reading", new int[] {0, 0, 0, 0},
            wrong(UNKNOWN, 0, 4), wrong(UNKNOWN, 1, 8), wrong(UNKNOWN, 2, 3),
            wrong(OUTSIDE, 3, 30), wrong(OUTSIDE, 3, -1),
            wrong(FULL, 3, 29), wrong(FULL, 3, 0));
        order(Scene.FULL, "back", new int[] {0}, wrong(OUTSIDE, 0, 9), wrong(OUTSIDE, 0, -1));
        order(Scene.FULL, "odds", new int[] {0, 0, 0}, wrong(UNKNOWN, 0, 3), wrong(OUTSIDE, 1, 100), wrong(OUTSIDE, 2, 2));
    }

    /** "UNKNOWN; OUTSIDE: lane, n above 60; SIZE." */
    private static void sheets() {
        order(Scene.BUSY, "sheet", new int[] {0, 0, 1},
            wrong(UNKNOWN, 0, 4), wrong(UNKNOWN, 0, -1),
            wrong(OUTSIDE, 1, 3), wrong(OUTSIDE, 1, -1), wrong(OUTSIDE, 2, 61),
            wrong(SIZE, 2, -1), wrong(SIZE, 2, MIN));
    }

    /** put: "UNKNOWN; NULL; INDEX." cell: "LOST: UNKNOWN, OUTSIDE: lane; FAULTS CAST, NULL, INDEX." */
    private static void cells() {
        order(Scene.BUSY, "put", new int[] {0, 0, 9},
            wrong(UNKNOWN, 0, 4), wrong(NULL, 0, Scene.NOTHING), wrong(INDEX, 1, 12), wrong(INDEX, 1, -1));
        order(Scene.BUSY, "cell", new int[] {0, 0, 2},
            wrong(UNKNOWN, 0, 4), wrong(OUTSIDE, 2, 3),
            wrong(CAST, 2, 1), wrong(CAST, 2, 0), wrong(NULL, 0, Scene.NOTHING),
            wrong(INDEX, 1, 12), wrong(INDEX, 1, -1));
    }

    /** "UNKNOWN; FAULTS NULL (the first, the other), CAST (unlike LANES), INDEX: i, j, n below 0 or beyond." */
    private static void copies() {
        order(Scene.BUSY, "copy", new int[] {0, 0, 0, 0, 1},
            wrong(UNKNOWN, 0, 4), wrong(UNKNOWN, 2, 4), wrong(UNKNOWN, 2, -1),
            wrong(NULL, 0, Scene.NOTHING), wrong(NULL, 2, Scene.NOTHING),
            wrong(CAST, 2, 1), wrong(CAST, 2, Scene.TEXT),
            wrong(INDEX, 1, -1), wrong(INDEX, 1, 13), wrong(INDEX, 3, -1), wrong(INDEX, 3, 13),
            wrong(INDEX, 4, -1), wrong(INDEX, 4, 13), wrong(INDEX, 4, MAX));
        // Where no cell is taken the lanes must be alike, and the places must be there, all the same.
        order(Scene.BUSY, "copy", new int[] {0, 0, 0, 0, 0},
            wrong(NULL, 2, Scene.NOTHING), wrong(CAST, 2, 1), wrong(INDEX, 1, 13), wrong(INDEX, 3, 13));
    }

    /** "UNKNOWN; OUTSIDE; CAST: they are none (each is a WALKER, too; a THIEF is a KITTEN)." */
    private static void kinds() {
        order(Scene.BUSY, "as", new int[] {2, 2},
            wrong(UNKNOWN, 0, 4), wrong(OUTSIDE, 1, 3), wrong(OUTSIDE, 1, -1), wrong(CAST, 0, 1), wrong(CAST, 0, 0));
        order(Scene.BUSY, "as", new int[] {1, 1}, wrong(CAST, 0, 0), wrong(CAST, 0, 3), wrong(CAST, 1, 2));
    }

    /** "CAST (nothing is no CAST)": of nothing every lane comes to NULL. */
    private static void nothingIsNoCast() {
        for (int lane = 0; lane <= 2; lane++) {
            Later.refused(Scene.BUSY, NULL, "house", Scene.NOTHING, lane, 0, 1);
            Later.refused(Scene.BUSY, NULL, "house", Scene.NOTHING, lane, 99, -1);
            Later.refused(Scene.BUSY, NULL, "night", 0, Scene.NOTHING, lane, 99, 0, 0);
            Later.refused(Scene.BUSY, NULL, "fits", 0, Scene.NOTHING, lane, 99, 0, 0);
            Later.refused(Scene.BUSY, NULL, "joins", Scene.NOTHING, lane, 99, 0, 0);
            Later.refused(Scene.BUSY, NULL, "cell", Scene.NOTHING, 99, lane);
        }
        Later.refused(Scene.BUSY, NULL, "copy", Scene.NOTHING, 99, 1, 99, -1);
        Later.refused(Scene.BUSY, NULL, "copy", 1, 99, Scene.NOTHING, 99, -1);
        Later.refused(Scene.BUSY, NULL, "copy", Scene.NOTHING, 0, Scene.NOTHING, 0, 0);
    }

    /** "pair by pair UNKNOWN: the first is no DOER; OUTSIDE: the second is no MOVE 0 .. 4": the first pair decides. */
    private static void pairByPair() {
        int[][] pairs = {{4, 5}, {-1, 0}, {0, 5}, {0, -1}, {0, 4}, {3, 4}, {0, 0}};
        int[] codes = {UNKNOWN, UNKNOWN, OUTSIDE, OUTSIDE, 0, 0, 0};
        for (int first = 0; first < pairs.length; first++) {
            for (int second = 0; second < pairs.length; second++) {
                Counted x = Later.withFault(Scene.BUSY);
                x.fill(2, 2, pairs[first][0], pairs[first][1], pairs[second][0], pairs[second][1]);
                x.due(-14, "sheet", 0, 0, -1);
                int code = codes[first] != 0 ? codes[first] : codes[second];
                if (code != 0) {
                    x.due(code, "night", 0, 2, 2, 0, 2, 0);
                    x.due(0, "fault");
                    x.due(code, "night", 0, 2, 2, 0, 2, 1);
                    x.due(code, "night", 2, 2, 2, 0, 2, 39);
                } else {
                    boolean wrong = first == 6 || second == 6;
                    x.due(!wrong ? -9 : first == 6 ? 0 : 1, "night", 0, 2, 2, 0, 2, 1);
                }
            }
        }
        // The least and the greatest numbers that a cell can have are no doers and no moves.
        for (int far : new int[] {MIN, MAX, 256, 65536}) {
            Counted x = Scene.BUSY.make();
            x.fill(2, 2, far, 4, 0, far);
            x.due(UNKNOWN, "night", 0, 2, 2, 0, 1, 0);
            x.due(OUTSIDE, "night", 0, 2, 2, 2, 1, 0);
        }
    }

    /** All sets of wrongs that can meet. */
    private static void order(Scene scene, String name, int[] right, Wrong... inOrder) {
        for (int set = 1; set < 1 << inOrder.length; set++) {
            List<Wrong> wrongs = new ArrayList<>();
            for (int k = 0; k < inOrder.length; k++) {
                if ((set >> k & 1) == 1) {
                    wrongs.add(inOrder[k]);
                }
            }
            if (canMeet(wrongs)) {
                Later.refused(scene, firstOf(wrongs), name, spoilt(right, wrongs));
            }
        }
    }

    private static boolean canMeet(List<Wrong> wrongs) {
        return wrongs.stream().mapToInt(Wrong::at).distinct().count() == wrongs.size();
    }

    /** The first in order is due; but nothing is no CAST (to copy, NULL is ahead of it anyway). */
    private static int firstOf(List<Wrong> wrongs) {
        int first = wrongs.get(0).code;
        boolean nothing = wrongs.stream().anyMatch(w -> w.code == NULL);
        return first == CAST && nothing ? NULL : first;
    }

    private static int[] spoilt(int[] right, List<Wrong> wrongs) {
        int[] args = right.clone();
        for (Wrong one : wrongs) {
            args[one.at] = one.value;
        }
        return args;
    }
}
