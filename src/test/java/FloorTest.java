/** "each if there is such a BOARD": every move from every board of every floor, and what comes of those that can't be. */
public final class FloorTest {
    private static final int STATE = -3, NONE = -9;
    private static final int[] OFF = {-1, 1, -2, 2, 0};

    public static void main(String[] args) {
        for (int boards = 2; boards <= 8; boards++) {
            for (int from = 0; from < boards; from++) {
                everyMove(boards, from);
                movesTogether(boards, from);
            }
        }
        severalOnOneBoard();
        Check.end();
    }

    /** A leap of 1 from boards that do not creak: 9, by a leap 10, less 1 a step away and 2 a leap away. */
    private static String text(int boards, int from) {
        return "s1" + "0".repeat(boards) + ";w" + from + "9," + from;
    }

    private static boolean isBoard(int boards, int from, int move) {
        int to = from + OFF[move];
        return to >= 0 && to < boards;
    }

    private static void everyMove(int boards, int from) {
        for (int move = 0; move < 5; move++) {
            boolean is = isBoard(boards, from, move);
            int to = from + OFF[move];
            int bumped = move == 4 ? 9 : 8;
            Counted x = Counted.housed(text(boards, from));
            x.fill(0, 2, 0, move);
            x.due(is ? bumped : STATE, "bump", 0, 0, move);
            x.due(is ? NONE : 0, "night", 0, 0, 2, 0, 1, 1);
            x.due(is ? bumped : -100, "night", 0, 0, 2, 0, 1, 0);
            x.due(is ? to : -100, "night", 0, 0, 2, 0, 1, 10);
            x.due(from, "ofDoer", 0, 1);
            x.due(is ? to : STATE, "step", 0, move);
            x.due(is ? to : from, "ofDoer", 0, 1);
            x.due(is ? bumped : 0, "ofPen", 0, 1);
            x.due(is ? bumped : 0, "ofPen", 0, 2);
        }
    }

    /** Only the hop bumps by 9, so that the share tells among how many moves it is one. */
    private static void movesTogether(int boards, int from) {
        int can = 0;
        int least = NONE;
        for (int move = 4; move >= 0; move--) {
            if (isBoard(boards, from, move)) {
                can++;
                least = move;
            }
        }
        Counted x = Counted.housed(text(boards, from));
        x.fill(0, 2, 8);
        x.due(can, "ofDoer", 0, 3);
        x.due(can - 1, "fits", 0, 0, 2, 0, 1, 0);
        x.due(least, "fits", 0, 0, 2, 0, 1, 10);
        x.due(1, "odds", 0, 9, 0);
        x.due(can, "odds", 0, 9, 1);
        x.due(1, "odds", 0, 8, 1);
        x.due(0, "odds", 0, 10, 0);
        x.due(1, "odds", 0, 10, 1);
        x.due(9, "loud", 0, 0);
        x.due(4, "loud", 0, 2);
        // Nobody who weighs nothing bumps, so the quietest way is the shortest.
        x.due(9, "dine", 0, 0);
        x.due(1, "leap", 0);
        x.due(0, "loud", 0, 0);
        x.due(least, "loud", 0, 2);
        for (int to = 0; to < boards; to++) {
            x.due((Math.abs(to - from) + 1) / 2, "quiet", 0, to, -1);
            x.due(0, "quiet", 0, to, -2);
        }
    }

    /** "Several may be on one BOARD." */
    private static void severalOnOneBoard() {
        Counted x = Counted.housed("s000;w01;k02;t03;w04,0");
        for (int d = 0; d < 4; d++) {
            x.due(0, "ofDoer", d, 1);
        }
        for (int d = 0; d < 4; d++) {
            x.due(1, "step", d, 1);
        }
        for (int d = 0; d < 4; d++) {
            x.due(1, "ofDoer", d, 1);
        }
    }
}
