import java.lang.reflect.Constructor;
import java.lang.reflect.Field;
import java.lang.reflect.Method;
import java.lang.reflect.Modifier;
import java.nio.file.Files;
import java.nio.file.Path;
import java.util.ArrayList;
import java.util.Arrays;
import java.util.List;
import java.util.Set;
import java.util.TreeSet;
import java.util.regex.Matcher;
import java.util.regex.Pattern;

/** The face as the document prints it, and those rules of LANGUAGE.md that can be read off. */
public final class LanguageTest {
    private static final Checks CHECKS = new Checks();

    public static void main(String[] args) throws Exception {
        face();
        nested();
        words(Files.readString(Path.of("src/main/java/OysterBeds.java")));
        CHECKS.end();
    }

    private static void holds(String what, boolean so) {
        CHECKS.due(what, so, true);
    }

    /** The document's own lines: 'public int sign(int v);' and the like. */
    private static Set<String> promised() throws Exception {
        Set<String> lines = new TreeSet<>();
        Matcher m = Pattern.compile("(?m)^    public (\\w+) (\\w+)\\((.*)\\)( throws \\w+)?;$")
                .matcher(Files.readString(Path.of("../shared/DOC.md")));
        while (m.find()) {
            lines.add(m.group(1) + " " + m.group(2) + "(" + m.group(3).replaceAll("(\\w+) \\w+", "$1").replace(" ", "") + ")"
                    + (m.group(4) == null ? "" : m.group(4)));
        }
        return lines;
    }

    private static void face() throws Exception {
        Class<?> c = OysterBeds.class;
        int bits = Modifier.PUBLIC | Modifier.FINAL;
        holds("the class is public and final", (c.getModifiers() & bits) == bits);
        Set<String> found = new TreeSet<>();
        Set<String> names = new TreeSet<>();
        for (Method m : c.getDeclaredMethods()) {
            if (Modifier.isPublic(m.getModifiers())) {
                List<String> types = new ArrayList<>();
                for (Class<?> type : m.getParameterTypes()) {
                    types.add(type.getSimpleName());
                }
                names.add(m.getName());
                found.add(m.getReturnType().getSimpleName() + " " + m.getName() + "("
                        + String.join(",", types) + ")" + (m.getExceptionTypes().length == 0 ? ""
                        : " throws " + m.getExceptionTypes()[0].getSimpleName()));
            }
        }
        Set<String> due = promised();
        holds("52 methods are promised: " + due.size(), due.size() == 52);
        holds("the methods are " + due + ", not " + found, due.equals(found));
        for (Method m : c.getDeclaredMethods()) {
            boolean isFace = Modifier.isPublic(m.getModifiers());
            holds(m + " is of the face or private", isFace || Modifier.isPrivate(m.getModifiers()));
            holds(m + " bears a name of its own", isFace || !names.contains(m.getName()));
        }
        for (Field f : c.getDeclaredFields()) {
            boolean isFace = f.getName().equals("NONE");
            holds(f + " is NONE or private", isFace || Modifier.isPrivate(f.getModifiers()));
        }
        Constructor<?>[] made = c.getDeclaredConstructors();
        holds("one public constructor", made.length == 1 && Modifier.isPublic(made[0].getModifiers())
                && made[0].getParameterCount() == 0);
    }

    private static void nested() {
        Set<String> names = new TreeSet<>();
        for (Method m : OysterBeds.class.getMethods()) {
            names.add(m.getName());
        }
        Class<?>[] all = OysterBeds.class.getDeclaredClasses();
        holds("at most twelve classes", all.length <= 11);
        for (Class<?> c : all) {
            holds(c + " is private or package-visible",
                    (c.getModifiers() & (Modifier.PUBLIC | Modifier.PROTECTED)) == 0);
            holds(c + " is static", Modifier.isStatic(c.getModifiers()));
            int fields = 0;
            for (Field f : c.getDeclaredFields()) {
                boolean isStatic = Modifier.isStatic(f.getModifiers());
                fields += isStatic ? 0 : 1;
                holds(f + " is final, if static", !isStatic || Modifier.isFinal(f.getModifiers()));
            }
            holds(c + " has at most twenty fields", fields <= 20);
            for (Method m : c.getDeclaredMethods()) {
                holds(m + " has at most seven parameters", m.getParameterCount() <= 7);
                holds(m + " bears no name of the face", !names.contains(m.getName()));
            }
        }
    }

    private static void words(String source) {
        String code = source.replaceAll("(?s)/\\*.*?\\*/", " ").replaceAll("//[^\n]*", " ");
        List<String> barred = Arrays.asList("->", "::", "\\bfinally\\b", "\\bsynchronized\\b",
                "\\bassert\\b", "\\bcatch\\b", "\\btry\\b", "\\bvar\\b", "\\bstatic\\s*\\{",
                "Exact\\b", "\\bSystem\\.(?!arraycopy)", "\\bObject\\b", "\\bpackage\\b",
                "\\bString\\b", "\\bfloat\\b", "\\bdouble\\b", "\\bsuper\\b", "@");
        for (String word : barred) {
            holds("no " + word, !Pattern.compile(word).matcher(code).find());
        }
        Matcher imports = Pattern.compile("(?m)^import (.*);$").matcher(code);
        while (imports.find()) {
            holds("import " + imports.group(1),
                    imports.group(1).equals("java.util.NoSuchElementException"));
        }
        Matcher throwing = Pattern.compile("\\bthrow ([^;]*);").matcher(code);
        int thrown = 0;
        while (throwing.find()) {
            thrown++;
            holds("throw " + throwing.group(1),
                    throwing.group(1).startsWith("new NoSuchElementException(\""));
        }
        holds("three places throw", thrown == 3);
        // What is made stands in fields or constructors alone: no call makes anything.
        Matcher making = Pattern.compile("(?m)^.*\\bnew (?!NoSuchElement).*$").matcher(code);
        while (making.find()) {
            String line = making.group().trim();
            holds("made once: " + line, line.startsWith("private ")
                    || line.endsWith("[i] = new Bed();"));
        }
        for (char sign : source.toCharArray()) {
            if (sign >= 128) {
                holds("signs 1 to 127", false);
            }
        }
    }
}
