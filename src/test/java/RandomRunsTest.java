import java.lang.reflect.InvocationTargetException;
import java.lang.reflect.Method;
import java.lang.reflect.Modifier;
import java.util.ArrayList;
import java.util.Arrays;
import java.util.Comparator;
import java.util.List;
import java.util.Random;

/** All promises: runs of calls, the same each time, whose answers must be the model's. */
public final class RandomRunsTest {
    private static final int RUNS = 600;
    private static final int CALLS = 512;
    private static final int[] FAR = {Integer.MIN_VALUE, Integer.MAX_VALUE, -1000, 1000, Integer.MIN_VALUE + 1, 1 << 30};

    private final Random random;
    private final BumpDiary diary = new BumpDiary();
    private final Model model = new Model();
    private final List<Method> methods;
    private final List<String> told = new ArrayList<>();
    private int calls = 0;
    private boolean wrong = false;

    private RandomRunsTest(long seed, List<Method> methods) {
        random = new Random(seed);
        this.methods = methods;
    }

    public static void main(String[] args) throws Exception {
        List<Method> methods = new ArrayList<>();
        for (Method m : BumpDiary.class.getDeclaredMethods()) {
            if (Modifier.isPublic(m.getModifiers())) {
                methods.add(m);
            }
        }
        methods.sort(Comparator.comparing(Method::getName));
        int runs = args.length > 0 ? Integer.parseInt(args[0]) : RUNS;
        for (int run = 0; run < runs; run++) {
            RandomRunsTest one = new RandomRunsTest(run, methods);
            one.run(run);
            Check.holds("run " + run, !one.wrong);
            if (one.wrong) {
                break;
            }
        }
        Check.end();
    }

    private void run(int run) throws Exception {
        if (run % 8 != 0) {
            tellText(text());
        }
        while (calls < CALLS && !wrong) {
            int pick = random.nextInt(100);
            if (pick < 1) {
                tellText(text());
            } else if (pick < 2) {
                tellText(spoilt(text()));
            } else if (pick < 5) {
                night();
            } else if (pick < 8) {
                fits();
            } else if (pick < 10) {
                joins();
            } else if (pick < 13) {
                trueReading();
            } else {
                anyCall();
            }
        }
    }

    private long call(String name, int... args) throws Exception {
        if (wrong || calls >= CALLS) {
            return 0;
        }
        calls++;
        Class<?>[] types = new Class<?>[args.length];
        Object[] values = new Object[args.length];
        for (int k = 0; k < args.length; k++) {
            types[k] = int.class;
            values[k] = args[k];
        }
        String row = name + Arrays.toString(args);
        long want = answer(Model.class.getDeclaredMethod(name, types), model, values);
        long got;
        try {
            got = answer(BumpDiary.class.getDeclaredMethod(name, types), diary, values);
        } catch (InvocationTargetException e) {
            System.out.println(row + " threw " + e.getCause());
            got = want + 1;
        }
        told.add(row + " = " + got);
        if (got != want) {
            wrong = true;
            told.forEach(System.out::println);
            System.out.println("due is " + want);
        }
        return want;
    }

    private static long answer(Method m, Object on, Object[] values) throws Exception {
        return ((Number) m.invoke(on, values)).longValue();
    }

    private void anyCall() throws Exception {
        Method m = methods.get(random.nextInt(methods.size()));
        boolean slow = m.getName().equals("quiet") || m.getName().equals("meet");
        if (slow && random.nextInt(4) != 0) {
            return;
        }
        int[] args = new int[m.getParameterCount()];
        for (int k = 0; k < args.length; k++) {
            args[k] = number();
        }
        if (random.nextInt(3) != 0) {
            tame(m.getName(), args);
        }
        call(m.getName(), args);
    }

    private int number() {
        int pick = random.nextInt(40);
        if (pick == 0) {
            return FAR[random.nextInt(FAR.length)];
        }
        if (pick < 3) {
            return random.nextInt(140) - 20;
        }
        return pick < 6 ? -1 + random.nextInt(12) : random.nextInt(5);
    }

    /** Makes arguments of calls with narrow ways such that they are seldom refused. */
    private void tame(String name, int[] args) {
        switch (name) {
            case "odds" -> {
                args[1] = random.nextInt(60);
                args[2] = random.nextInt(2);
            }
            case "sheet" -> {
                args[1] = random.nextInt(3);
                args[2] = random.nextInt(20);
            }
            case "oil", "dine" -> args[1] = random.nextInt(10);
            case "quiet" -> {
                args[1] = random.nextInt(8);
                args[2] = random.nextInt(10) - 2;
            }
            case "put" -> args[2] = random.nextInt(4) == 0 ? random.nextInt() : random.nextInt(12) - 1;
            case "house", "night", "joins", "fits", "meet", "step", "bump" -> args[args.length - 1] = random.nextInt(5);
            default -> {
            }
        }
    }

    private String text() {
        int boards = 2 + random.nextInt(7);
        // Small weights and creaks make ties.
        int bound = random.nextBoolean() ? 10 : 3;
        StringBuilder text = new StringBuilder("s").append(random.nextInt(10));
        for (int b = 0; b < boards; b++) {
            text.append(random.nextInt(bound));
        }
        for (int d = random.nextInt(4); d >= 0; d--) {
            text.append(';').append("wkt".charAt(random.nextInt(3))).append(random.nextInt(boards));
            text.append(random.nextInt(bound));
        }
        for (int p = random.nextInt(3); p >= 0; p--) {
            text.append(',').append(random.nextInt(boards));
        }
        return text.toString();
    }

    private String spoilt(String text) {
        String codes = "swkt0123456789;,x";
        StringBuilder spoilt = new StringBuilder(text);
        int at = random.nextInt(text.length());
        char code = codes.charAt(random.nextInt(codes.length()));
        switch (random.nextInt(4)) {
            case 0 -> spoilt.setLength(at);
            case 1 -> spoilt.insert(at, code);
            case 2 -> spoilt.deleteCharAt(at);
            default -> spoilt.setCharAt(at, code);
        }
        return spoilt.toString();
    }

    private void tellText(String text) throws Exception {
        int sheet = random.nextInt(4);
        int lane = random.nextInt(3);
        int from = random.nextInt(3);
        call("sheet", sheet, lane, from + text.length() + random.nextInt(2));
        for (int k = 0; k < text.length(); k++) {
            call("put", sheet, from + k, text.charAt(k));
        }
        call("house", sheet, lane, from, text.length());
    }

    private int filled(int sheet, int n, int low, int bound) throws Exception {
        int lane = random.nextInt(3);
        call("sheet", sheet, lane, n);
        for (int k = 0; k < n; k++) {
            call("put", sheet, k, low + random.nextInt(bound));
        }
        return lane;
    }

    private void night() throws Exception {
        int sheet = random.nextInt(4);
        int n = random.nextInt(8);
        int lane = filled(sheet, 2 * n, 0, 1);
        int doers = Math.max(1, model.many(0));
        for (int m = 0; m < n; m++) {
            call("put", sheet, 2 * m, random.nextInt(20) == 0 ? 4 : random.nextInt(doers));
            call("put", sheet, 2 * m + 1, random.nextInt(40) == 0 ? 5 : random.nextInt(2) == 0 ? 4 : random.nextInt(5));
        }
        int p = random.nextInt(Math.max(1, model.many(1)));
        for (int what : new int[] {0, 1, 2, 3, 10 + random.nextInt(4), 20 + random.nextInt(n + 1)}) {
            call("night", p, sheet, lane, 0, n, what);
        }
    }

    private void fits() throws Exception {
        int sheet = random.nextInt(4);
        int n = random.nextInt(5);
        int lane = filled(sheet, n, 0, 6);
        int p = random.nextInt(Math.max(1, model.many(1)));
        for (int what : new int[] {0, 1, 10, 11, 12, 13}) {
            call("fits", p, sheet, lane, 0, n, what);
        }
    }

    private void joins() throws Exception {
        int sheet = random.nextInt(4);
        int n = random.nextInt(6);
        int lane = filled(sheet, 2 * n, 3, 1 + random.nextInt(3));
        for (int what : new int[] {0, 10, 11, 12, 13, 14}) {
            call("joins", sheet, lane, 0, n, what);
        }
    }

    /** A reading that is so, or nearly, so that the sets are not all empty. */
    private void trueReading() throws Exception {
        if (model.many(0) == 0) {
            return;
        }
        int d = random.nextInt(model.many(0));
        int p = random.nextInt(model.many(1));
        int v = model.bump(p, d, 4) + (random.nextInt(8) == 0 ? 1 : 0);
        int b = model.ofDoer(d, 1);
        if (call("reading", d, b, p, v) == BumpDiary.FULL) {
            call("back", 3);
        }
        call("weights", d);
        call("kinds", d);
        call("creaks", b);
    }
}
