import java.util.ArrayList;
import java.util.EnumMap;
import java.util.List;
import java.util.Map;

/**
 * What an object answers later: a long row of calls, those that ask and those that change, so that two objects are
 * told apart if anything in them is unlike. fault() is left to the caller, who must have asked for it ahead.
 */
final class Later {
    private static final Map<Scene, List<String>> UNTOUCHED = new EnumMap<>(Scene.class);

    private final Counted x;
    private final List<String> answers = new ArrayList<>();

    private Later(Counted x) {
        this.x = x;
    }

    /** A call that is refused or comes to a fault: what it answers, what fault() tells then, and that nothing changed. */
    static void refused(Scene scene, int code, String name, int... args) {
        Counted x = withFault(scene);
        long want = Counted.answersLong(name) ? Counted.LOST : code;
        int fault = Counted.namesFaults(name) ? faultOf(code) : 4;
        String told = "in " + scene + ", " + Counted.told(name, args);
        Check.due(told, x.call(name, args), want);
        Check.due(told + ", and its fault", x.call("fault"), fault);
        same(scene, told, x);
    }

    /** A call that only asks: nothing changed, be its answer what it may. */
    static void onlyAsks(Scene scene, String name, int... args) {
        Counted x = withFault(scene);
        x.call(name, args);
        x.call("fault");
        same(scene, "in " + scene + ", " + Counted.told(name, args), x);
    }

    /** The FAULT that an answer tells; 0 if it tells none. */
    static int faultOf(int code) {
        return code <= -11 && code >= -14 ? -10 - code : 0;
    }

    /** A fault stands, so that a call that must make it 0 and one that must leave it are told apart. */
    static Counted withFault(Scene scene) {
        Counted x = scene.make();
        x.due(-14, "sheet", 0, 0, -1);
        return x;
    }

    private static void same(Scene scene, String told, Counted x) {
        List<String> due = UNTOUCHED.computeIfAbsent(scene, s -> answersOf(withFault(s)));
        List<String> got = answersOf(x);
        int at = 0;
        while (at < due.size() && at < got.size() && due.get(at).equals(got.get(at))) {
            at++;
        }
        boolean alike = due.equals(got);
        Check.holds(told + " leaves all as it was" + (alike ? "" : ": " + got.get(at) + ", not " + due.get(at)), alike);
    }

    static List<String> answersOf(Counted x) {
        Later later = new Later(x);
        later.askHouse();
        later.askSheets();
        later.askMore();
        later.change();
        later.askHouse();
        return later.answers;
    }

    private void ask(String name, int... args) {
        answers.add(Counted.told(name, args) + " = " + x.call(name, args));
    }

    private void askHouse() {
        ask("trace");
        for (int what = 0; what < 5; what++) {
            ask("many", what);
        }
        for (int d = 0; d < 4; d++) {
            for (int what = 0; what < 3; what++) {
                ask("ofDoer", d, what);
            }
            ask("weights", d);
            ask("kinds", d);
        }
        for (int p = 0; p < 3; p++) {
            for (int what = 0; what < 3; what++) {
                ask("ofPen", p, what);
            }
        }
        for (int b = 0; b < 8; b++) {
            ask("creak", b);
            ask("creaks", b);
        }
    }

    /** Of each sheet every cell and the first place behind them, which tells how many there are. */
    private void askSheets() {
        int[] lanes = {2, 1, 0, 0};
        int[] lengths = {12, 5, 0, 32};
        for (int k = 0; k < 4; k++) {
            for (int i = 0; i <= lengths[k]; i++) {
                ask("cell", k, i, lanes[k]);
            }
            ask("fault");
        }
    }

    private void askMore() {
        for (int p = 0; p < 3; p++) {
            ask("loud", p, 0);
            ask("odds", p, 25, 0);
            ask("bump", p, 0, 3);
        }
        ask("part");
        for (int d = 0; d < 4; d++) {
            ask("quiet", d, 5, -2);
        }
        ask("meet", 0, 1, 0);
        for (int what : new int[] {0, 2, 3, 10, 11}) {
            ask("night", 0, 0, 2, 0, 3, what);
        }
        ask("fits", 0, 0, 2, 1, 2, 0);
        ask("joins", 1, 1, 0, 2, 0);
    }

    private void change() {
        ask("reading", 1, 4, 1, 3);
        ask("back", 2);
        ask("step", 0, 1);
        ask("step", 2, 4);
        ask("paper");
        ask("step", 1, 1);
        ask("hear", 0);
        ask("tell", 2);
        ask("oil", 0, 1);
        ask("dine", 1, 7);
        ask("carry", 0, 1);
        ask("leap", 0);
        ask("copy", 0, 0, 0, 2, 3);
        ask("cell", 0, 4, 2);
        ask("put", 1, 1, 40000);
        ask("cell", 1, 1, 1);
        ask("lose", 2);
        ask("sheet", 2, 0, 1);
        ask("lose", 0);
    }
}
