import java.io.ByteArrayOutputStream;
import java.io.IOException;
import java.io.PrintStream;
import java.lang.reflect.Field;
import java.lang.reflect.Modifier;
import java.net.URL;
import java.net.URLClassLoader;
import java.nio.file.Files;
import java.nio.file.Path;
import java.util.Arrays;
import java.util.Comparator;
import java.util.List;
import java.util.Set;
import java.util.TreeSet;
import java.util.regex.Matcher;
import java.util.regex.Pattern;
import java.util.stream.Collectors;
import java.util.stream.Stream;
import javax.tools.JavaCompiler;
import javax.tools.ToolProvider;

/** README.md says what is so: its program prints what it shows, its tables name the whole face, its paths are there. */
final class ReadmeTest {
    private static final Path PAGE = Path.of("README.md");
    private static final String CLASS_FILE = "src/main/java/StairsThatGo.java";
    private static final int CALLS = 27;

    public static void main(String[] args) throws Exception {
        Check c = new Check("ReadmeTest");
        String page = Files.readString(PAGE);
        program(c, page);
        calls(c, page);
        constants(c, page);
        commands(c, page);
        c.end();
    }

    /** What stands between the fences of a kind, one fenced part behind the other. */
    private static List<String> fenced(String page, String kind) {
        return Pattern.compile("(?ms)^```" + kind + "\n(.*?)^```$").matcher(page).results()
            .map(found -> found.group(1)).collect(Collectors.toList());
    }

    private static void program(Check c, String page) throws Exception {
        List<String> programs = fenced(page, "java");
        List<String> outputs = fenced(page, "text");
        c.due("programs on the page", programs.size(), 1);
        c.due("outputs on the page", outputs.size(), 1);
        Path room = Files.createTempDirectory("readme");
        try {
            Path caller = room.resolve("Caller.java");
            Files.writeString(caller, programs.get(0));
            c.holds("the program compiles", compiles(room, caller));
            String printed = printed(room);
            c.holds("the program prints what the page shows, not\n" + printed, printed.equals(outputs.get(0)));
        } finally {
            clear(room);
        }
    }

    private static boolean compiles(Path room, Path caller) {
        JavaCompiler compiler = ToolProvider.getSystemJavaCompiler();
        return compiler != null && compiler.run(null, null, null, "-Xlint:all", "-Werror", "-d", room.toString(),
            CLASS_FILE, caller.toString()) == 0;
    }

    private static String printed(Path room) throws Exception {
        ByteArrayOutputStream kept = new ByteArrayOutputStream();
        PrintStream screen = System.out;
        try (URLClassLoader loader = new URLClassLoader(new URL[] {room.toUri().toURL()}, null);
                PrintStream out = new PrintStream(kept)) {
            System.setOut(out);
            loader.loadClass("Caller").getMethod("main", String[].class).invoke(null, (Object) new String[0]);
        } finally {
            System.setOut(screen);
        }
        return kept.toString().replace(System.lineSeparator(), "\n");
    }

    private static void clear(Path room) throws IOException {
        try (Stream<Path> all = Files.walk(room)) {
            for (Path one : all.sorted(Comparator.reverseOrder()).collect(Collectors.toList())) {
                Files.delete(one);
            }
        }
    }

    /** A call is told as `name(one, other)` ahead of its line's second bar. */
    private static void calls(Check c, String page) {
        Set<String> told = new TreeSet<>();
        Matcher rows = Pattern.compile("(?m)^\\| (`\\w+\\(.*?) \\|").matcher(page);
        while (rows.find()) {
            Matcher one = Pattern.compile("`(\\w+)\\(([\\w, ]*)\\)`").matcher(rows.group(1));
            while (one.find()) {
                int parts = one.group(2).isEmpty() ? 0 : one.group(2).split(", ").length;
                c.holds(one.group(1) + " is told once", told.add(one.group(1) + " " + parts));
            }
        }
        Set<String> due = Arrays.stream(StairsThatGo.class.getDeclaredMethods())
            .filter(m -> Modifier.isPublic(m.getModifiers()))
            .map(m -> m.getName() + " " + m.getParameterCount()).collect(Collectors.toCollection(TreeSet::new));
        c.due("calls told", told.size(), CALLS);
        c.holds("the calls told, " + told + ", are those of the class, " + due, told.equals(due));
    }

    private static void constants(Check c, String page) throws IllegalAccessException {
        int told = 0;
        for (Field field : StairsThatGo.class.getDeclaredFields()) {
            if (Modifier.isPublic(field.getModifiers())) {
                told++;
                c.holds(field.getName() + " is told", page.contains(
                    "| `" + field.getName() + "` | " + field.getInt(null) + " |"));
            }
        }
        c.due("constants", told, 8);
    }

    /** What the commands and the texts point at must be there. */
    private static void commands(Check c, String page) {
        c.holds("the command for all tests", fenced(page, "sh").contains("bash .ci/run\n"));
        c.holds(".ci/run can be run", Files.isExecutable(Path.of(".ci/run")));
        Matcher paths = Pattern.compile("(?<![\\w/])(?:\\.\\./shared|src|\\.ci)/[\\w./]*\\w").matcher(page);
        int seen = 0;
        while (paths.find()) {
            seen++;
            c.holds(paths.group() + " is there", Files.exists(Path.of(paths.group())));
        }
        c.holds("paths seen: " + seen, seen >= 10);
        Matcher tests = Pattern.compile("\\b(?:java -cp out |`)(\\w+Test)\\b").matcher(page);
        while (tests.find()) {
            c.holds(tests.group(1) + " is there", Files.exists(Path.of("src/test/java", tests.group(1) + ".java")));
        }
    }
}
