import java.util.Set;
import java.util.TreeSet;

/**
 * Every argument of every call: all numbers that are taken, the first on each side that is refused, the smallest and the
 * largest int, and such as would be taken if they were cut to a byte or a short. A refused call changes nothing.
 */
public final class ArgumentsTest {
    private static final int MIN = Integer.MIN_VALUE, MAX = Integer.MAX_VALUE;
    private static final int UNKNOWN = -1, OUTSIDE = -2, INDEX = -13, SIZE = -14;

    private final Scene scene;
    private final int lastDoer;
    private final int lastPen;
    private final int lastBoard;

    private ArgumentsTest(Scene scene) {
        this.scene = scene;
        lastDoer = scene.doers - 1;
        lastPen = scene.pens - 1;
        lastBoard = scene.boards - 1;
    }

    public static void main(String[] args) {
        for (Scene scene : new Scene[] {Scene.SMALLEST, Scene.BUSY}) {
            ArgumentsTest test = new ArgumentsTest(scene);
            test.houses();
            test.moves();
            test.ways();
            test.readings();
            test.sheets();
            test.copies();
            test.parts();
        }
        // Two doers are needed to meet.
        new ArgumentsTest(Scene.BUSY).meetings();
        Check.end();
    }

    private void houses() {
        int length = scene.textLength();
        int[] house = {Scene.TEXT, 0, 0, length};
        argument("house", house, 0, UNKNOWN, UNKNOWN, 0, 3);
        argument("house", house, 1, OUTSIDE, OUTSIDE, 0, 2);
        argument("house", house, 2, INDEX, INDEX, 0, 0);
        argument("house", house, 3, SIZE, INDEX, 0, length);
        argument("house", new int[] {Scene.TEXT, 0, 0, 0}, 2, INDEX, INDEX, 0, length);
        argument("house", new int[] {Scene.TEXT, 0, 0, 1}, 2, INDEX, INDEX, 0, length - 1);
        argument("house", new int[] {Scene.TEXT, 0, length, 0}, 3, SIZE, INDEX, 0, 0);
        argument("ofDoer", new int[] {0, 0}, 0, UNKNOWN, UNKNOWN, 0, lastDoer);
        argument("ofDoer", new int[] {0, 0}, 1, OUTSIDE, OUTSIDE, 0, 3);
        argument("ofPen", new int[] {0, 0}, 0, UNKNOWN, UNKNOWN, 0, lastPen);
        argument("ofPen", new int[] {0, 0}, 1, OUTSIDE, OUTSIDE, 0, 2);
        argument("creak", new int[] {0}, 0, UNKNOWN, UNKNOWN, 0, lastBoard);
        argument("oil", new int[] {0, 0}, 0, UNKNOWN, UNKNOWN, 0, lastBoard);
        argument("oil", new int[] {lastBoard, 0}, 1, OUTSIDE, OUTSIDE, 0, 9);
        argument("dine", new int[] {0, 0}, 0, UNKNOWN, UNKNOWN, 0, lastDoer);
        argument("dine", new int[] {lastDoer, 0}, 1, OUTSIDE, OUTSIDE, 0, 9);
        argument("carry", new int[] {0, 0}, 0, UNKNOWN, UNKNOWN, 0, lastPen);
        argument("carry", new int[] {lastPen, 0}, 1, UNKNOWN, UNKNOWN, 0, lastBoard);
        argument("leap", new int[] {0}, 0, OUTSIDE, OUTSIDE, 0, 9);
        argument("many", new int[] {0}, 0, OUTSIDE, OUTSIDE, 0, 4);
    }

    private void moves() {
        argument("bump", new int[] {0, 0, 4}, 0, UNKNOWN, UNKNOWN, 0, lastPen);
        argument("bump", new int[] {0, 0, 4}, 1, UNKNOWN, UNKNOWN, 0, lastDoer);
        argument("bump", new int[] {lastPen, lastDoer, 4}, 2, OUTSIDE, OUTSIDE, 0, 4);
        argument("step", new int[] {0, 4}, 0, UNKNOWN, UNKNOWN, 0, lastDoer);
        argument("step", new int[] {lastDoer, 4}, 1, OUTSIDE, OUTSIDE, 0, 4);
        int[] night = {0, 0, 2, 0, 1, 0};
        argument("night", night, 0, UNKNOWN, UNKNOWN, 0, lastPen);
        argument("night", night, 1, UNKNOWN, UNKNOWN, 0, 3);
        argument("night", night, 2, OUTSIDE, OUTSIDE, 0, 2);
        argument("night", night, 3, INDEX, INDEX, 0, 10);
        argument("night", new int[] {0, 0, 2, 0, 0, 0}, 3, INDEX, INDEX, 0, 12);
        argument("night", night, 4, OUTSIDE, OUTSIDE, 0, 20);
        argument("night", night, 5, OUTSIDE, OUTSIDE, 0, 3, 10, 13, 20, 39);
    }

    private void ways() {
        argument("quiet", new int[] {0, 0, -1}, 0, UNKNOWN, UNKNOWN, 0, lastDoer);
        argument("quiet", new int[] {0, 0, -1}, 1, UNKNOWN, UNKNOWN, 0, lastBoard);
        argument("quiet", new int[] {0, 1, -1}, 2, OUTSIDE, OUTSIDE, -2, 7);
        int[] fits = {0, 0, 2, 0, 1, 0};
        argument("fits", fits, 0, UNKNOWN, UNKNOWN, 0, lastPen);
        argument("fits", fits, 1, UNKNOWN, UNKNOWN, 0, 3);
        argument("fits", fits, 2, OUTSIDE, OUTSIDE, 0, 2);
        argument("fits", fits, 3, INDEX, INDEX, 0, 11);
        argument("fits", new int[] {0, 0, 2, 0, 0, 0}, 3, INDEX, INDEX, 0, 12);
        argument("fits", fits, 4, OUTSIDE, OUTSIDE, 0, 4);
        argument("fits", fits, 5, OUTSIDE, OUTSIDE, 0, 1, 10, 13);
        int[] joins = {1, 1, 0, 2, 0};
        argument("joins", joins, 0, UNKNOWN, UNKNOWN, 0, 3);
        argument("joins", joins, 1, OUTSIDE, OUTSIDE, 0, 2);
        argument("joins", joins, 2, INDEX, INDEX, 0, 1);
        argument("joins", new int[] {1, 1, 0, 0, 0}, 2, INDEX, INDEX, 0, 5);
        argument("joins", joins, 3, OUTSIDE, OUTSIDE, 0, 5);
        argument("joins", joins, 4, OUTSIDE, OUTSIDE, 0, 0, 10, 14);
        argument("loud", new int[] {0, 0}, 0, UNKNOWN, UNKNOWN, 0, lastPen);
        argument("loud", new int[] {lastPen, 0}, 1, OUTSIDE, OUTSIDE, 0, 2);
    }

    private void meetings() {
        argument("meet", new int[] {0, 1, 0}, 0, UNKNOWN, UNKNOWN, 0, 0, 2, 3);
        argument("meet", new int[] {2, 1, 0}, 1, UNKNOWN, UNKNOWN, 0, 1, 3, 3);
        argument("meet", new int[] {3, 0, 0}, 2, OUTSIDE, OUTSIDE, 0, 1);
    }

    private void readings() {
        argument("reading", new int[] {0, 0, 0, 0}, 0, UNKNOWN, UNKNOWN, 0, lastDoer);
        argument("reading", new int[] {0, 0, 0, 0}, 1, UNKNOWN, UNKNOWN, 0, lastBoard);
        argument("reading", new int[] {0, 0, 0, 0}, 2, UNKNOWN, UNKNOWN, 0, lastPen);
        argument("reading", new int[] {lastDoer, lastBoard, lastPen, 0}, 3, OUTSIDE, OUTSIDE, 0, 29);
        argument("back", new int[] {0}, 0, OUTSIDE, OUTSIDE, 0, scene.readings);
        argument("weights", new int[] {0}, 0, UNKNOWN, UNKNOWN, 0, lastDoer);
        argument("kinds", new int[] {0}, 0, UNKNOWN, UNKNOWN, 0, lastDoer);
        argument("creaks", new int[] {0}, 0, UNKNOWN, UNKNOWN, 0, lastBoard);
        argument("odds", new int[] {0, 0, 0}, 0, UNKNOWN, UNKNOWN, 0, lastPen);
        argument("odds", new int[] {lastPen, 0, 0}, 1, OUTSIDE, OUTSIDE, 0, 99);
        argument("odds", new int[] {lastPen, 99, 0}, 2, OUTSIDE, OUTSIDE, 0, 1);
    }

    private void sheets() {
        argument("sheet", new int[] {0, 0, 1}, 0, UNKNOWN, UNKNOWN, 0, 3);
        argument("sheet", new int[] {0, 0, 1}, 1, OUTSIDE, OUTSIDE, 0, 2);
        argument("sheet", new int[] {3, 2, 1}, 2, SIZE, OUTSIDE, 0, 60);
        argument("lose", new int[] {0}, 0, UNKNOWN, UNKNOWN, 0, 3);
        argument("put", new int[] {0, 0, 0}, 0, UNKNOWN, UNKNOWN, 0, 3);
        argument("put", new int[] {0, 0, 9}, 1, INDEX, INDEX, 0, 11);
        argument("put", new int[] {1, 0, 9}, 1, INDEX, INDEX, 0, 4);
        for (int v : new int[] {MIN, -1, 0, MAX}) {
            Counted x = scene.make();
            x.due(1, "put", 0, 11, v);
            x.due(v, "cell", 0, 11, 2);
        }
        argument("cell", new int[] {0, 0, 2}, 0, UNKNOWN, UNKNOWN, 0, 3);
        argument("cell", new int[] {0, 0, 2}, 1, INDEX, INDEX, 0, 11);
        argument("cell", new int[] {1, 0, 1}, 1, INDEX, INDEX, 0, 4);
        argument("cell", new int[] {0, 0, 2}, 2, OUTSIDE, OUTSIDE, 0, 2);
    }

    private void copies() {
        argument("copy", new int[] {0, 0, 0, 0, 0}, 0, UNKNOWN, UNKNOWN, 0, 3);
        argument("copy", new int[] {0, 0, 0, 0, 0}, 2, UNKNOWN, UNKNOWN, 0, 3);
        argument("copy", new int[] {0, 0, 0, 0, 0}, 1, INDEX, INDEX, 0, 12);
        argument("copy", new int[] {0, 0, 0, 0, 0}, 3, INDEX, INDEX, 0, 12);
        argument("copy", new int[] {0, 0, 0, 0, 5}, 1, INDEX, INDEX, 0, 7);
        argument("copy", new int[] {0, 0, 0, 0, 5}, 3, INDEX, INDEX, 0, 7);
        argument("copy", new int[] {0, 4, 0, 0, 0}, 4, INDEX, INDEX, 0, 8);
        argument("copy", new int[] {0, 0, 0, 4, 0}, 4, INDEX, INDEX, 0, 8);
        argument("copy", new int[] {0, 12, 0, 0, 0}, 4, INDEX, INDEX, 0, 0);
        argument("copy", new int[] {0, 0, 0, 12, 0}, 4, INDEX, INDEX, 0, 0);
    }

    private void parts() {
        argument("tell", new int[] {0}, 0, UNKNOWN, UNKNOWN, 0, lastDoer);
        argument("hear", new int[] {0}, 0, UNKNOWN, UNKNOWN, 0, lastDoer);
        argument("as", new int[] {0, 0}, 0, UNKNOWN, UNKNOWN, 0, lastDoer);
        argument("as", new int[] {lastDoer, 0}, 1, OUTSIDE, OUTSIDE, 0, 2);
    }

    /** One argument of a call whose others are right: ranges are pairs of the first and last number that is taken. */
    private void argument(String name, int[] right, int at, int below, int above, int... ranges) {
        for (int k = 0; k < ranges.length; k += 2) {
            for (int v = ranges[k]; v <= ranges[k + 1]; v++) {
                taken(name, with(right, at, v), below, above);
            }
        }
        for (int v : around(ranges)) {
            if (!isIn(v, ranges)) {
                Later.refused(scene, v < ranges[0] ? below : above, name, with(right, at, v));
            }
        }
    }

    private static int[] with(int[] right, int at, int v) {
        int[] args = right.clone();
        args[at] = v;
        return args;
    }

    /** A number that is taken is not refused as those beside it are; what is answered then is for other tests. */
    private void taken(String name, int[] args, int below, int above) {
        Counted x = Later.withFault(scene);
        long got = x.call(name, args);
        long fault = x.call("fault");
        for (int code : new int[] {below, above}) {
            boolean asRefused = got == code;
            if (Counted.answersLong(name)) {
                boolean thatFault = !Counted.namesFaults(name) || fault == Later.faultOf(code);
                asRefused = got == Counted.LOST && thatFault;
            }
            Check.holds("in " + scene + ", " + Counted.told(name, args) + " is taken, not " + got, !asRefused);
        }
    }

    private static boolean isIn(int v, int[] ranges) {
        for (int k = 0; k < ranges.length; k += 2) {
            if (v >= ranges[k] && v <= ranges[k + 1]) {
                return true;
            }
        }
        return false;
    }

    private static Set<Integer> around(int[] ranges) {
        Set<Integer> values = new TreeSet<>(Set.of(MIN, MIN + 1, MAX, MAX - 1));
        for (int k = 0; k < ranges.length; k++) {
            int edge = ranges[k];
            values.add(k % 2 == 0 ? edge - 1 : edge + 1);
            for (int cut : new int[] {1 << 8, 1 << 16, 1 << 31}) {
                values.add(edge + cut);
                values.add(edge - cut);
            }
        }
        return values;
    }
}
