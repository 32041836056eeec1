import java.lang.reflect.Method;
import java.lang.reflect.Modifier;
import java.util.Arrays;
import java.util.HashMap;
import java.util.Map;
import java.util.Set;

/** A BumpDiary whose calls are made by name and counted, as nothing is promised beyond the 512th. */
final class Counted {
    static final long LOST = Long.MIN_VALUE;
    private static final int MOST = 512;
    private static final Set<String> NAMING_FAULTS =
        Set.of("house", "night", "fits", "joins", "sheet", "put", "cell", "copy", "as");
    private static final Map<String, Method> CALLS = callsByName();

    private final BumpDiary diary = new BumpDiary();
    private int made = 0;

    private static Map<String, Method> callsByName() {
        Map<String, Method> calls = new HashMap<>();
        for (Method m : BumpDiary.class.getDeclaredMethods()) {
            if (Modifier.isPublic(m.getModifiers())) {
                calls.put(m.getName(), m);
            }
        }
        return calls;
    }

    static boolean namesFaults(String name) {
        return NAMING_FAULTS.contains(name);
    }

    static boolean answersLong(String name) {
        return CALLS.get(name).getReturnType() == long.class;
    }

    static String told(String name, int... args) {
        String row = Arrays.toString(args);
        return name + "(" + row.substring(1, row.length() - 1) + ")";
    }

    int made() {
        return made;
    }

    long call(String name, int... args) {
        made++;
        if (made > MOST) {
            throw new IllegalStateException(told(name, args) + " is call " + made + " of its object");
        }
        try {
            return ((Number) CALLS.get(name).invoke(diary, Arrays.stream(args).boxed().toArray())).longValue();
        } catch (ReflectiveOperationException e) {
            throw new IllegalStateException(told(name, args) + " threw", e);
        }
    }

    /** Makes a call whose answer is due. */
    void due(long want, String name, int... args) {
        Check.due(told(name, args), call(name, args), want);
    }

    void fill(int sheet, int lane, int... values) {
        due(1, "sheet", sheet, lane, values.length);
        for (int i = 0; i < values.length; i++) {
            due(1, "put", sheet, i, values[i]);
        }
    }

    void fill(int sheet, int lane, String text) {
        fill(sheet, lane, text.chars().toArray());
    }

    /** An object with a house, told by a row of bytes that stays on sheet 3. */
    static Counted housed(String text) {
        Counted x = new Counted();
        x.fill(3, 0, text);
        x.due(text.chars().filter(c -> c == ';').count(), "house", 3, 0, 0, text.length());
        return x;
    }
}
