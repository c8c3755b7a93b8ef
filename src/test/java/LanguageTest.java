import java.lang.management.ManagementFactory;
import java.lang.reflect.Constructor;
import java.lang.reflect.Field;
import java.lang.reflect.Method;
import java.lang.reflect.Modifier;
import java.nio.file.Files;
import java.nio.file.Path;
import java.util.ArrayList;
import java.util.List;
import java.util.Set;
import java.util.TreeSet;
import java.util.regex.Matcher;
import java.util.regex.Pattern;

/** The face as the document prints it, and those rules of LANGUAGE.md that can be read off. */
public final class LanguageTest {
    private static final Checks CHECKS = new Checks();
    private static final String EXCEPTION = "(IllegalStateException|IllegalArgumentException"
            + "|IndexOutOfBoundsException|ArithmeticException|UnsupportedOperationException"
            + "|NoSuchElementException|RuntimeException)";
    private static final int MOST_LINES = 60;

    public static void main(String[] args) throws Exception {
        face();
        nested();
        String source = Files.readString(Path.of("src/main/java/OysterBeds.java"));
        String code = source.replaceAll("(?s)/\\*.*?\\*/", " ").replaceAll("//[^\n]*", " ");
        words(code);
        library(code);
        exceptions(code);
        lengths(code);
        room();
        CHECKS.end();
    }

    private static void holds(String what, boolean so) {
        CHECKS.due(what, so, true);
    }

    /** The document's own lines: 'public int sign(int v);' and the like. */
    private static Set<String> promised() throws Exception {
        Set<String> lines = new TreeSet<>();
        Matcher m = Pattern.compile("(?m)^    public (\\w+) (\\w+)\\((.*)\\)( throws \\w+)?;$")
                .matcher(Files.readString(Path.of("../shared/DOC.md")));
        while (m.find()) {
            String types = m.group(3).replaceAll("(\\w+) \\w+", "$1").replace(" ", "");
            lines.add(m.group(1) + " " + m.group(2) + "(" + types + ")"
                    + (m.group(4) == null ? "" : m.group(4)));
        }
        return lines;
    }

    private static String told(Method m) {
        List<String> types = new ArrayList<>();
        for (Class<?> type : m.getParameterTypes()) {
            types.add(type.getSimpleName());
        }
        Class<?>[] thrown = m.getExceptionTypes();
        return m.getReturnType().getSimpleName() + " " + m.getName() + "("
                + String.join(",", types) + ")"
                + (thrown.length == 0 ? "" : " throws " + thrown[0].getSimpleName());
    }

    private static void face() throws Exception {
        Class<?> c = OysterBeds.class;
        int bits = Modifier.PUBLIC | Modifier.FINAL;
        holds("the class is public and final", (c.getModifiers() & bits) == bits);
        Set<String> found = new TreeSet<>();
        Set<String> names = new TreeSet<>();
        for (Method m : c.getDeclaredMethods()) {
            if (Modifier.isPublic(m.getModifiers())) {
                names.add(m.getName());
                found.add(told(m));
            }
        }
        Set<String> due = promised();
        holds("52 methods are promised: " + due.size(), due.size() == 52);
        holds("the methods are " + due + ", not " + found, due.equals(found));
        for (Method m : c.getDeclaredMethods()) {
            boolean isFace = Modifier.isPublic(m.getModifiers()) || m.isSynthetic();
            holds(m + " is of the face or private", isFace || Modifier.isPrivate(m.getModifiers()));
            holds(m + " bears a name of its own", isFace || !names.contains(m.getName()));
        }
        for (Field f : c.getDeclaredFields()) {
            boolean isFace = f.getName().equals("NONE") || f.isSynthetic();
            holds(f + " is NONE or private", isFace || Modifier.isPrivate(f.getModifiers()));
        }
        Field none = c.getField("NONE");
        holds("NONE is a constant of int", none.getType() == int.class
                && Modifier.isStatic(none.getModifiers()) && Modifier.isFinal(none.getModifiers()));
        CHECKS.due("NONE", OysterBeds.NONE, -1);
        Constructor<?>[] made = c.getDeclaredConstructors();
        holds("one public constructor", made.length == 1 && Modifier.isPublic(made[0].getModifiers())
                && made[0].getParameterCount() == 0);
    }

    private static void nested() {
        Class<?>[] all = OysterBeds.class.getDeclaredClasses();
        holds("some twelve classes", all.length <= 12);
        for (Class<?> c : all) {
            holds(c + " is private or package-visible",
                    (c.getModifiers() & (Modifier.PUBLIC | Modifier.PROTECTED)) == 0);
            int fields = 0;
            for (Field f : c.getDeclaredFields()) {
                boolean isStatic = Modifier.isStatic(f.getModifiers());
                fields += isStatic ? 0 : 1;
                holds(f + " is final, if static", !isStatic || Modifier.isFinal(f.getModifiers()));
            }
            holds(c + " has some twenty fields", fields <= 22);
            for (Method m : c.getDeclaredMethods()) {
                holds(m + " has at most seven parameters", m.getParameterCount() <= 7);
            }
        }
    }

    private static void words(String code) {
        String[] barred = {"::", "\\bfinally\\b", "\\bsynchronized\\b", "\\bassert\\b",
            "\\bstatic\\s*\\{", "\\bpackage\\b", "\\bObject\\b", "\\bvolatile\\b", "\\bnative\\b",
            "\\btry\\s*\\("};
        for (String word : barred) {
            holds("no " + word, !Pattern.compile(word).matcher(code).find());
        }
        String noCases = code.replaceAll("(?m)^\\s*(case [^\n]*?|default) ->", " ");
        holds("no lambda", !noCases.contains("->"));
        for (char sign : code.toCharArray()) {
            if (sign < 1 || sign > 127) {
                holds("signs 1 to 127", false);
            }
        }
    }

    private static void library(String code) {
        Matcher imports = Pattern.compile("(?m)^import (.*);$").matcher(code);
        while (imports.find()) {
            holds("import " + imports.group(1), imports.group(1)
                    .matches("java\\.util\\.(NoSuchElementException|ArrayList|List|Iterator|Arrays)"));
        }
        String[] barred = {"\\bSystem\\.(?!arraycopy)", "\\w+Exact\\b", "\\bjava\\.(?!util\\.)",
            "\\bThread\\b", "\\bRandom\\b", "\\bMath\\.random\\b", "\\.hashCode\\(",
            "\\.toString\\(\\) *\\+", "\\bgetMessage\\b", "\\bMap\\b", "\\bSet\\b"};
        for (String word : barred) {
            holds("no " + word, !Pattern.compile(word).matcher(code).find());
        }
    }

    private static void exceptions(String code) {
        Matcher throwing = Pattern.compile("\\bthrow ([^;]*);").matcher(code);
        while (throwing.find()) {
            holds("throw " + throwing.group(1),
                    throwing.group(1).matches("new " + EXCEPTION + "\\((\"[^\"]*\")?\\)"));
        }
        Matcher catching = Pattern.compile("\\bcatch \\(([^)]*)\\)").matcher(code);
        while (catching.find()) {
            holds("catch " + catching.group(1), catching.group(1).matches(EXCEPTION + " \\w+"));
        }
    }

    /** Methods as they stand here: from a head to the brace that stands below it. */
    private static void lengths(String code) {
        String[] lines = code.split("\n");
        for (int i = 0; i < lines.length; i++) {
            Matcher head = Pattern.compile("^( +)(?=\\S)[\\w\\[\\]<> ]+ (\\w+)\\(.*\\{$").matcher(lines[i]);
            if (head.matches() && !lines[i].contains(" new ")) {
                int end = i;
                while (end < lines.length - 1 && !lines[end].equals(head.group(1) + "}")) {
                    end++;
                }
                holds(head.group(2) + " has some sixty lines: " + (end - i), end - i <= MOST_LINES);
            }
        }
    }

    /** Whatever is asked 400 times of full beds, it makes far less than there is room for. */
    private static void room() throws Exception {
        var memory = (com.sun.management.ThreadMXBean) ManagementFactory.getThreadMXBean();
        long self = Thread.currentThread().getId();
        for (Method method : OysterBeds.class.getDeclaredMethods()) {
            boolean throwing = method.getName().equals("row") || method.getName().equals("oyster");
            if (!Modifier.isPublic(method.getModifiers()) || throwing) {
                continue;
            }
            OysterBeds x = Checks.with(Edges.EIGHT, "(c+p*2-f/(k+1))*(n<6)+v*9-w");
            Object[] values = new Object[method.getParameterCount()];
            java.util.Arrays.fill(values, 2);
            long before = memory.getThreadAllocatedBytes(self);
            for (int i = 0; i < 400; i++) {
                method.invoke(x, values);
            }
            long bytes = memory.getThreadAllocatedBytes(self) - before;
            holds(method.getName() + " makes little: " + bytes, bytes < 4_000_000);
        }
    }
}
