import java.lang.reflect.Method;
import java.lang.reflect.Modifier;
import java.net.URL;
import java.net.URLClassLoader;
import java.nio.file.Files;
import java.nio.file.Path;
import java.util.List;
import java.util.Set;
import java.util.TreeSet;
import java.util.regex.Matcher;
import java.util.regex.Pattern;
import java.util.stream.Collectors;
import java.util.stream.Stream;
import javax.tools.ToolProvider;

/** README.md: its program compiles and answers what it says, it shows every call, and its list of tests is whole. */
public final class ReadmeTest {
    private static final Pattern CALL = Pattern.compile("(x\\..*\\)); *// *(-?\\d+|[A-Z]+):.*");
    private static final Pattern ROW = Pattern.compile("\\| (\\w+Test) \\|.*");

    public static void main(String[] args) throws Exception {
        Path source = Path.of(System.getProperty("bumpdiary.source")).toAbsolutePath();
        Path root = source.getParent().getParent().getParent().getParent();
        List<String> lines = Files.readAllLines(root.resolve("README.md"));
        List<String> program = programOf(lines);
        everyCallIsShown(program);
        everyTestIsNamed(lines, root.resolve("src/test/java"));
        run(program);
        Check.end();
    }

    private static List<String> programOf(List<String> lines) {
        boolean[] inside = {false};
        return lines.stream().filter(line -> {
            if (line.startsWith("```")) {
                inside[0] = line.equals("```java");
                return false;
            }
            return inside[0];
        }).collect(Collectors.toList());
    }

    private static void everyCallIsShown(List<String> program) {
        for (Method m : BumpDiary.class.getDeclaredMethods()) {
            if (Modifier.isPublic(m.getModifiers())) {
                boolean shown = program.stream().anyMatch(line -> line.startsWith("x." + m.getName() + "("));
                Check.holds("README.md shows " + m.getName(), shown);
            }
        }
    }

    private static void everyTestIsNamed(List<String> lines, Path tests) throws Exception {
        Set<String> named = new TreeSet<>();
        for (String line : lines) {
            Matcher row = ROW.matcher(line);
            if (row.matches()) {
                named.add(row.group(1));
            }
        }
        try (Stream<Path> files = Files.list(tests)) {
            Set<String> there = files.map(file -> file.getFileName().toString())
                .filter(name -> name.endsWith("Test.java"))
                .map(name -> name.substring(0, name.length() - ".java".length()))
                .collect(Collectors.toCollection(TreeSet::new));
            Check.holds("README.md names " + named + " of " + there, named.equals(there));
        }
    }

    /** A call at the head of a line must say what it answers; all other lines are taken as they are. */
    private static String asAsked(String line) {
        if (!line.startsWith("x.")) {
            return line;
        }
        Matcher call = CALL.matcher(line);
        boolean told = call.matches();
        Check.holds("an answer is told: " + line, told);
        if (!told) {
            return "";
        }
        String due = call.group(2);
        String want = Character.isLetter(due.charAt(0)) ? "BumpDiary." + due : due;
        return "ReadmeTest.due(\"README.md: " + call.group(1) + "\", " + call.group(1) + ", " + want + ");";
    }

    private static void run(List<String> program) throws Exception {
        Path folder = Files.createTempDirectory("readme");
        try {
            String body = program.stream().map(ReadmeTest::asAsked).collect(Collectors.joining("\n"));
            Path file = Files.writeString(folder.resolve("ReadmeProgram.java"),
                "public final class ReadmeProgram {\npublic static void ask() {\n" + body + "\n}\n}\n");
            int failed = ToolProvider.getSystemJavaCompiler().run(null, null, null,
                "-encoding", "UTF-8", "-cp", System.getProperty("java.class.path"), "-d", folder.toString(), file.toString());
            Check.due("README.md's program compiles", failed, 0);
            if (failed == 0) {
                ask(folder);
            }
        } finally {
            try (Stream<Path> files = Files.list(folder)) {
                files.forEach(file -> file.toFile().delete());
            }
            folder.toFile().delete();
        }
    }

    /** What the program calls: it has a loader of its own, so it sees only what is public here. */
    public static void due(String call, long got, long want) {
        Check.due(call, got, want);
    }

    private static void ask(Path folder) throws Exception {
        URL[] places = {folder.toUri().toURL()};
        try (URLClassLoader loader = new URLClassLoader(places, ReadmeTest.class.getClassLoader())) {
            loader.loadClass("ReadmeProgram").getMethod("ask").invoke(null);
        }
    }
}
