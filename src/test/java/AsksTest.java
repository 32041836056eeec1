/** Calls that only ask change nothing, whatever they answer: a night that is told, ways, fits, sets, odds and the rest. */
public final class AsksTest {
    public static void main(String[] args) {
        for (Scene scene : Scene.values()) {
            house(scene);
            nights(scene);
            ways(scene);
            sets(scene);
            parts(scene);
        }
        tellingAndHearingOnlyLeaveATrace();
        Check.end();
    }

    private static void house(Scene scene) {
        for (int number = 0; number < 4; number++) {
            for (int what = 0; what < 4; what++) {
                Later.onlyAsks(scene, "ofDoer", number, what);
                Later.onlyAsks(scene, "ofPen", number, what);
            }
            for (int move = 0; move < 5; move++) {
                Later.onlyAsks(scene, "bump", number, number, move);
            }
        }
        for (int b = 0; b < 8; b++) {
            Later.onlyAsks(scene, "creak", b);
        }
        for (int what = 0; what < 5; what++) {
            Later.onlyAsks(scene, "many", what);
        }
    }

    /** "from where all are now (nothing is changed)": one that can be, and one with a FIRST WRONG. */
    private static void nights(Scene scene) {
        for (int what : new int[] {0, 1, 2, 3, 10, 11, 12, 13, 20, 22, 39}) {
            Later.onlyAsks(scene, "night", 0, 0, 2, 0, 3, what);
            Later.onlyAsks(scene, "night", 0, 0, 2, 0, 4, what);
            Later.onlyAsks(scene, "night", 0, 0, 2, 6, 1, what);
            Later.onlyAsks(scene, "night", 0, 0, 2, 0, 0, what);
        }
    }

    private static void ways(Scene scene) {
        for (int d = 0; d < 4; d++) {
            for (int to = 0; to < 8; to++) {
                Later.onlyAsks(scene, "quiet", d, to, -2);
            }
            Later.onlyAsks(scene, "meet", d, 3 - d, 0);
            Later.onlyAsks(scene, "loud", d, 1);
        }
        for (int n = 0; n <= 4; n++) {
            Later.onlyAsks(scene, "fits", 0, 0, 2, 0, n, 0);
            Later.onlyAsks(scene, "fits", 0, 0, 2, 0, n, 10);
            Later.onlyAsks(scene, "joins", 0, 2, 0, n, 0);
            Later.onlyAsks(scene, "joins", 1, 1, 0, n, 10);
        }
        Later.onlyAsks(scene, "part");
    }

    private static void sets(Scene scene) {
        for (int number = 0; number < 8; number++) {
            Later.onlyAsks(scene, "weights", number);
            Later.onlyAsks(scene, "kinds", number);
            Later.onlyAsks(scene, "creaks", number);
        }
        for (int v : new int[] {0, 1, 20, 99}) {
            Later.onlyAsks(scene, "odds", 0, v, 0);
            Later.onlyAsks(scene, "odds", 0, v, 1);
        }
        Later.onlyAsks(scene, "back", 0);
    }

    private static void parts(Scene scene) {
        for (int k = 0; k < 4; k++) {
            for (int lane = 0; lane < 3; lane++) {
                Later.onlyAsks(scene, "cell", k, 0, lane);
                Later.onlyAsks(scene, "as", k, lane);
                Later.onlyAsks(scene, "copy", k, lane, k, lane, 0);
            }
            Later.onlyAsks(scene, "copy", k, 0, k, 0, 5);
        }
        Later.onlyAsks(scene, "trace");
        Later.onlyAsks(scene, "fault");
        Later.onlyAsks(scene, "lose", Scene.NOTHING);
    }

    private static void tellingAndHearingOnlyLeaveATrace() {
        Counted one = Scene.BUSY.make();
        Counted other = Scene.BUSY.make();
        // Two walkers' tellings leave the same numbers.
        one.due(5, "tell", 0);
        one.due(0, "hear", 0);
        other.due(6, "tell", 3);
        other.due(3, "hear", 3);
        Check.holds("nothing but a trace is left", Later.answersOf(one).equals(Later.answersOf(other)));
    }
}
