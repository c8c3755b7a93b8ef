import java.io.ByteArrayOutputStream;
import java.io.PrintStream;
import java.lang.reflect.Method;
import java.lang.reflect.Modifier;
import java.net.URL;
import java.net.URLClassLoader;
import java.nio.charset.StandardCharsets;
import java.nio.file.Files;
import java.nio.file.Path;
import java.util.Comparator;
import java.util.List;
import java.util.Set;
import java.util.TreeSet;
import java.util.regex.Matcher;
import java.util.regex.Pattern;
import java.util.stream.Collectors;
import java.util.stream.Stream;
import javax.tools.ToolProvider;

/** That README.md is right: its program, the calls and the tests that it tells of. */
public final class ReadmeTest {
    private static final Checks CHECKS = new Checks();
    private static final Path CLASS = Path.of("src/main/java/OysterBeds.java");
    private static final Path TESTS = Path.of("src/test/java");

    public static void main(String[] args) throws Exception {
        String readme = Files.readString(Path.of("README.md"));
        program(readme);
        groups(readme);
        calls(readme);
        tests(readme);
        CHECKS.end();
    }

    private static void holds(String what, boolean so) {
        CHECKS.due(what, so, true);
    }

    /** What stands between ```kind and ```, the first such. */
    private static String block(String readme, String kind) {
        Matcher m = Pattern.compile("(?s)```" + kind + "\n(.*?)```").matcher(readme);
        holds("README.md has a block of " + kind, m.find());
        return m.group(1);
    }

    /** The program is built as the page stands, and prints what stands behind it. */
    private static void program(String readme) throws Exception {
        Path room = Files.createTempDirectory("readme");
        try {
            Path example = room.resolve("Example.java");
            Files.writeString(example, block(readme, "java"));
            int failed = ToolProvider.getSystemJavaCompiler().run(null, null, null,
                    "-d", room.toString(), CLASS.toString(), example.toString());
            CHECKS.due("javac of README.md's program", failed, 0);
            if (failed == 0) {
                List<String> want = block(readme, "text").lines().toList();
                List<String> got = printedBy(room);
                CHECKS.due("lines of README.md's program", got.size(), want.size());
                for (int i = 0; i < Math.min(got.size(), want.size()); i++) {
                    holds("README.md: '" + want.get(i) + "', not '" + got.get(i) + "'",
                            got.get(i).equals(want.get(i)));
                }
            }
        } finally {
            remove(room);
        }
    }

    private static List<String> printedBy(Path room) throws Exception {
        PrintStream out = System.out;
        ByteArrayOutputStream printed = new ByteArrayOutputStream();
        // Without a parent, so that the program's own OysterBeds is taken and not this test's.
        try (URLClassLoader loader = new URLClassLoader(new URL[] {room.toUri().toURL()},
                ClassLoader.getPlatformClassLoader())) {
            System.setOut(new PrintStream(printed, true, StandardCharsets.UTF_8));
            Method main = loader.loadClass("Example").getMethod("main", String[].class);
            main.invoke(null, (Object) new String[0]);
        } finally {
            System.setOut(out);
        }
        return printed.toString(StandardCharsets.UTF_8).lines().toList();
    }

    private static void remove(Path room) throws Exception {
        try (Stream<Path> all = Files.walk(room)) {
            for (Path path : all.sorted(Comparator.reverseOrder()).toList()) {
                Files.delete(path);
            }
        }
    }

    /** The table has the document's groups, each with the document's calls, in its order. */
    private static void groups(String readme) throws Exception {
        Pattern group = Pattern.compile(
                "(?m)^Ahead of the calls (.*) the interface says: ---- (.*)\\.$");
        Matcher m = group.matcher(Files.readString(Path.of("../shared/DOC.md")));
        int groups = 0;
        while (m.find()) {
            String row = "| " + m.group(2) + " | " + m.group(1) + " |";
            holds("README.md has the row " + row, readme.contains("\n" + row + "\n"));
            groups++;
        }
        CHECKS.due("groups of calls", groups, 11);
    }

    /** Each call of the face is told, and no call that isn't there. */
    private static void calls(String readme) {
        Set<String> face = new TreeSet<>();
        for (Method method : OysterBeds.class.getDeclaredMethods()) {
            if (Modifier.isPublic(method.getModifiers())) {
                face.add(method.getName());
            }
        }
        Set<String> told = new TreeSet<>();
        Matcher row = Pattern.compile("(?m)^\\|.*\\| (`.*`) \\|$").matcher(readme);
        while (row.find()) {
            told.addAll(named(row.group(1), "`(\\w+)`"));
        }
        holds("README.md tells of " + told + ", due is " + face, told.equals(face));
        for (String name : named(readme, "`([a-z]+)(?:\\(\\d*\\))?`")) {
            holds("README.md's " + name + " is a call", face.contains(name)
                    || name.equals("javac") || name.equals("java"));
        }
    }

    /** Each test is told, and no test that isn't there; and what runs them can be run. */
    private static void tests(String readme) throws Exception {
        try (Stream<Path> all = Files.list(TESTS)) {
            Set<String> there = all.map(path -> path.getFileName().toString())
                    .filter(name -> name.endsWith("Test.java"))
                    .map(name -> name.replace(".java", "")).collect(Collectors.toSet());
            Set<String> told = named(readme, "`(\\w+Test)`");
            holds("README.md tells of " + told + ", due is " + there, told.equals(there));
        }
        for (String path : named(readme, "`((?:src|\\.\\./shared)[\\w./]*)`")) {
            holds(path + " is there", Files.exists(Path.of(path)));
        }
        holds(".ci/run is told", readme.contains("\n.ci/run\n"));
        holds(".ci/run can be run", Files.isExecutable(Path.of(".ci/run")));
    }

    private static Set<String> named(String text, String pattern) {
        Set<String> names = new TreeSet<>();
        Matcher m = Pattern.compile(pattern).matcher(text);
        while (m.find()) {
            names.add(m.group(1));
        }
        return names;
    }
}
