import java.lang.reflect.Constructor;
import java.lang.reflect.Field;
import java.lang.reflect.Method;
import java.lang.reflect.Modifier;
import java.nio.file.Files;
import java.nio.file.Path;
import java.util.Arrays;
import java.util.List;
import java.util.Set;
import java.util.TreeSet;
import java.util.regex.Matcher;
import java.util.regex.Pattern;

/** Rules of LANGUAGE.md that can be seen in the class or its text: the face, banned words, short methods, few objects. */
public final class RulesTest {
    private static final String[] FACE = {
        "int house(int,int,int,int)", "int ofDoer(int,int)", "int ofPen(int,int)", "int creak(int)", "int oil(int,int)",
        "int dine(int,int)", "int carry(int,int)", "int leap(int)", "int bump(int,int,int)", "int step(int,int)",
        "int paper()", "int night(int,int,int,int,int,int)", "int quiet(int,int,int)", "int meet(int,int,int)",
        "int fits(int,int,int,int,int,int)", "int joins(int,int,int,int,int)", "int loud(int,int)", "int part()",
        "int reading(int,int,int,int)", "int back(int)", "int weights(int)", "int kinds(int)", "int creaks(int)",
        "long odds(int,int,int)", "int sheet(int,int,int)", "int lose(int)", "int put(int,int,int)",
        "long cell(int,int,int)", "int copy(int,int,int,int,int)", "int tell(int)", "int hear(int)", "int as(int,int)",
        "int trace()", "int fault()", "int many(int)"};
    private static final String[] BANNED = {
        "throw", "throws", "try", "catch", "finally", "synchronized", "assert", "import", "package", "volatile", "native",
        "protected", "Thread", "Random", "System.nanoTime", "System.currentTimeMillis", "System.out", "Exact", "::", "->"};

    public static void main(String[] args) throws Exception {
        face();
        classesInside();
        List<String> lines = Files.readAllLines(Path.of(System.getProperty("bumpdiary.source")));
        bannedWords(lines);
        libraryIsListed(lines);
        objectsAreMadeOnce(lines);
        shortMethods(lines);
        aNewObjectIsSmall();
        Check.end();
    }

    private static void face() {
        Set<String> due = new TreeSet<>(Arrays.asList(FACE));
        Set<String> got = new TreeSet<>();
        Set<String> names = new TreeSet<>();
        for (Method m : BumpDiary.class.getDeclaredMethods()) {
            if (!Modifier.isPrivate(m.getModifiers())) {
                String full = m.toGenericString().replace("public ", "").replace("BumpDiary.", "");
                got.add(full);
                names.add(m.getName());
                Check.holds(full + " is public and no more", m.getModifiers() == Modifier.PUBLIC);
            }
        }
        Check.holds("the face is " + got, got.equals(due));
        for (Method m : BumpDiary.class.getDeclaredMethods()) {
            boolean hides = Modifier.isPrivate(m.getModifiers()) && names.contains(m.getName());
            Check.holds(m + " bears no public name", !hides);
        }
        Set<String> open = new TreeSet<>();
        for (Field f : BumpDiary.class.getDeclaredFields()) {
            if (!Modifier.isPrivate(f.getModifiers())) {
                open.add(f.getName());
            }
            boolean constant = Modifier.isFinal(f.getModifiers());
            Check.holds(f + " is final if static", constant || !Modifier.isStatic(f.getModifiers()));
        }
        Check.holds("open fields are " + open, open.equals(Set.of("UNKNOWN", "OUTSIDE", "STATE", "FULL", "NONE", "LOST")));
        Constructor<?>[] made = BumpDiary.class.getDeclaredConstructors();
        Check.due("constructors", made.length, 1);
        Check.holds("the constructor is public", Modifier.isPublic(made[0].getModifiers()));
        int kind = BumpDiary.class.getModifiers();
        Check.holds("the class is public and final", Modifier.isPublic(kind) && Modifier.isFinal(kind));
    }

    private static long fieldsOf(Class<?> c) {
        return Arrays.stream(c.getDeclaredFields()).filter(f -> !Modifier.isStatic(f.getModifiers())).count();
    }

    private static void classesInside() {
        Check.holds("BumpDiary has some twenty fields at most", fieldsOf(BumpDiary.class) <= 20);
        for (Method m : BumpDiary.class.getDeclaredMethods()) {
            Check.holds(m + " has seven parameters at most", m.getParameterCount() <= 7);
        }
        Class<?>[] inside = BumpDiary.class.getDeclaredClasses();
        Check.holds("some twelve classes at most", inside.length <= 12);
        Set<String> names = new TreeSet<>();
        for (String call : FACE) {
            names.add(call.substring(call.indexOf(' ') + 1, call.indexOf('(')));
        }
        for (Class<?> c : inside) {
            Check.holds(c + " is static", Modifier.isStatic(c.getModifiers()));
            Check.holds(c + " has some twenty fields at most", fieldsOf(c) <= 20);
            for (Method m : c.getDeclaredMethods()) {
                Check.holds(m + " has seven parameters at most", m.getParameterCount() <= 7);
                Check.holds(m + " bears no public name", !names.contains(m.getName()));
            }
        }
    }

    private static String withoutComment(String line) {
        int at = line.indexOf("//");
        String code = at < 0 ? line : line.substring(0, at);
        return code.trim().startsWith("*") || code.trim().startsWith("/**") ? "" : code;
    }

    private static void bannedWords(List<String> lines) {
        for (String line : lines) {
            String code = withoutComment(line);
            for (String word : BANNED) {
                boolean found = Character.isLetter(word.charAt(0))
                    ? Pattern.compile("\\b" + Pattern.quote(word) + "\\b|" + Pattern.quote(word) + "\\(").matcher(code).find()
                    : code.contains(word);
                Check.holds("without " + word + ": " + line, !found);
            }
        }
    }

    /** Of the library the class uses these alone, which LANGUAGE.md lists. */
    private static void libraryIsListed(List<String> lines) {
        Set<String> listed = Set.of("Math.max", "Math.min", "Math.abs", "System.arraycopy", "Long.MIN_VALUE");
        Pattern use = Pattern.compile("\\b[A-Z]\\w*\\.\\w+");
        for (String line : lines) {
            Matcher m = use.matcher(withoutComment(line));
            while (m.find()) {
                Check.holds(m.group() + " is listed", listed.contains(m.group()));
            }
        }
    }

    /** All rows and objects are made with the object, so no call adds to the room. */
    private static void objectsAreMadeOnce(List<String> lines) {
        Pattern field = Pattern.compile("^\\s+(private )?final \\S+ \\w+ = new [^;]+;$");
        for (String line : lines) {
            String code = withoutComment(line);
            if (Pattern.compile("\\bnew\\b").matcher(code).find()) {
                Check.holds("made once: " + line, field.matcher(code).matches());
            }
        }
    }

    private static void shortMethods(List<String> lines) {
        Pattern head = Pattern.compile("^( {4}| {8})[^ ].*\\) \\{$");
        for (int k = 0; k < lines.size(); k++) {
            Matcher m = head.matcher(lines.get(k));
            if (m.matches()) {
                int end = lines.subList(k, lines.size()).indexOf(m.group(1) + "}");
                Check.holds("short: " + lines.get(k), end > 0 && end <= 60);
            }
        }
    }

    private static void aNewObjectIsSmall() throws Exception {
        int[] count = count(new BumpDiary());
        System.out.println("a new object: " + count[0] + " objects and arrays, " + count[1] + " fields and elements");
        // The room of a run is some 600,000 and 7.3 million: even a thousand objects leave most of it free.
        Check.holds("few objects", count[0] <= 60);
        Check.holds("few fields and elements", count[1] <= 800);
    }

    private static int[] count(Object o) throws Exception {
        if (o instanceof int[] row) {
            return new int[] {1, row.length};
        }
        int[] all = {1, 0};
        for (Field f : o.getClass().getDeclaredFields()) {
            if (Modifier.isStatic(f.getModifiers())) {
                continue;
            }
            all[1]++;
            f.setAccessible(true);
            if (!f.getType().isPrimitive()) {
                int[] part = count(f.get(o));
                all[0] += part[0];
                all[1] += part[1];
            }
        }
        return all;
    }
}
