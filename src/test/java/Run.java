import java.lang.reflect.InvocationTargetException;
import java.lang.reflect.Method;
import java.lang.reflect.Modifier;
import java.nio.file.Files;
import java.nio.file.Path;
import java.util.HashMap;
import java.util.Map;
import java.util.NoSuchElementException;
import java.util.regex.Matcher;
import java.util.regex.Pattern;

/**
 * One object, and the sentence of the document that is tested with it. Calls are told as the
 * document writes them, "puts(0, 0)"; true counts 1, false 0. The sentence is looked up under the
 * promise's heading, so that no test speaks of what isn't promised; and an object makes at most
 * 512 calls, since what later ones answer is free.
 */
final class Run {
    static final int WHAT_IT_IS = -1;
    static final int TERMS = 0;
    private static final int MOST_CALLS = 512;
    private static final Checks CHECKS = new Checks();
    private static final Map<String, Method> FACE = face();
    private static final Map<Integer, String> DOCUMENT = document();

    private final OysterBeds beds = new OysterBeds();
    private final String sentence;
    private int calls = 0;

    private Run(String sentence) {
        this.sentence = sentence;
    }

    /** A new object for a sentence of a promise (or of the TERMS). */
    static Run of(int promise, String quote) {
        String whole = DOCUMENT.getOrDefault(promise, "");
        String sentence = (promise > TERMS ? promise : "Terms") + ": " + quote;
        CHECKS.due(sentence + " (stands in the document)", whole.contains(quote), true);
        return new Run(sentence);
    }

    static void end() {
        CHECKS.end();
    }

    private static Map<String, Method> face() {
        Map<String, Method> face = new HashMap<>();
        for (Method method : OysterBeds.class.getDeclaredMethods()) {
            if (Modifier.isPublic(method.getModifiers())) {
                face.put(method.getName(), method);
            }
        }
        return face;
    }

    private static Map<Integer, String> document() {
        Map<Integer, String> parts = new HashMap<>();
        try {
            String all = Files.readString(Path.of("../shared/DOC.md"));
            for (String part : all.split("\n## ")) {
                Matcher heading = Pattern.compile("(?:Promise (\\d+):|Terms|What it is)")
                        .matcher(part);
                if (heading.lookingAt()) {
                    int other = part.startsWith("Terms") ? TERMS : WHAT_IT_IS;
                    String promise = heading.group(1);
                    parts.put(promise == null ? other : Integer.parseInt(promise),
                            part.replaceAll("\\s+", " "));
                }
            }
        } catch (java.io.IOException e) {
            System.out.println("no document: " + e);
        }
        return parts;
    }

    /** What a call answers; NoSuchElementException is Edges.THROWS, and none else may come. */
    long answer(String call) {
        calls++;
        if (calls > MOST_CALLS) {
            throw new IllegalStateException(sentence + ": more calls than an object is for");
        }
        int bracket = call.indexOf('(');
        String inside = call.substring(bracket + 1, call.length() - 1);
        String[] told = inside.isEmpty() ? new String[0] : inside.split(", ");
        Object[] values = new Object[told.length];
        for (int i = 0; i < told.length; i++) {
            values[i] = Integer.valueOf(told[i]);
        }
        try {
            Object answer = FACE.get(call.substring(0, bracket)).invoke(beds, values);
            return answer instanceof Boolean so ? so ? 1 : 0 : ((Number) answer).longValue();
        } catch (InvocationTargetException e) {
            if (e.getCause().getClass() == NoSuchElementException.class) {
                return Edges.THROWS;
            }
            CHECKS.due(sentence + ": " + call + " threw " + e.getCause(), false, true);
            return Long.MAX_VALUE;
        } catch (IllegalAccessException e) {
            throw new IllegalStateException(e);
        }
    }

    Run due(String call, long want) {
        CHECKS.due(sentence + ": " + call, answer(call), want);
        return this;
    }

    Run does(String... some) {
        for (String call : some) {
            answer(call);
        }
        return this;
    }

    Run doesTimes(int times, String... some) {
        for (int i = 0; i < times; i++) {
            does(some);
        }
        return this;
    }

    /** Puts signs behind THE TEXT. */
    Run text(String signs) {
        int length = (int) answer("count(10)") + signs.length();
        for (int v : Checks.fours(signs)) {
            answer("sign(" + v + ")");
        }
        if (signs.length() % 4 != 0) {
            answer("end(" + length + ")");
        }
        return this;
    }

    /** A call that reads these signs, and empties THE TEXT, whatever it answers. */
    Run reads(String call, String signs, long want) {
        text(signs);
        CHECKS.due(sentence + ": " + call + " of '" + signs + "'", answer(call), want);
        return due("count(10)", 0);
    }

    /** OYSTERS told by LINES, and THE RULE. */
    Run with(String lines, String rule) {
        text(lines).does("oysters()");
        return text(rule).does("rule()");
    }

    Run with(String lines) {
        return text(lines).does("oysters()");
    }

    /** The ROW is just these numbers. */
    Run row(long... want) {
        due("count(9)", want.length);
        for (int i = 0; i < want.length; i++) {
            due("row(" + i + ")", want[i]);
        }
        return due("row(" + want.length + ")", Edges.THROWS);
    }

    Run due(String call, long want, long... row) {
        return due(call, want).row(row);
    }

    /** What each OYSTER has (0: KIND, 1: FEAR, 2: VIEW, 3: SHUT, 4: PEARL). */
    Run each(int what, long... want) {
        due("count(0)", want.length);
        for (int i = 0; i < want.length; i++) {
            due("oyster(" + i + ", " + what + ")", want[i]);
        }
        return this;
    }

    /** Beds in which much was done, so that little can change without being seen. */
    Run busy() {
        with(Edges.BEDS, "v*9-f+w-p");
        does("puts(0, 3)", "tides(1)", "keep(0)", "holds(1, 6)", "puts(1, 9)", "stills(2, 6)",
                "keep(2)", "tides(1)", "seen(1, 2, 3)", "seen(0, 9, 1)", "heard(1, 2)",
                "heard(2, 1)", "shyest(1, 4)");
        return text("n2q05k0");
    }

    /** All that can be seen of the object, the ROW first; it is spent by that. */
    private String seenOfAll() {
        StringBuilder seen = new StringBuilder();
        for (int what = 0; what <= 10; what++) {
            ask(seen, "count(" + what + ")");
        }
        askRow(seen);
        askBeds(seen);
        ask(seen, "season()");
        askRow(seen);
        askBeds(seen);
        for (String call : new String[] {"would(0, 0)", "would(1, 3)", "would(2, 5)", "would(3, 9)",
            "law()", "fits()", "cares(0)", "cares(1)", "cares(3)"}) {
            ask(seen, call);
            askRow(seen);
        }
        for (int i = 0; i < 3; i++) {
            if (ask(seen, "again(" + i + ")") == 1) {
                askBeds(seen);
            }
        }
        return seen.toString();
    }

    /** What is left to be undone; for that, too, the object is spent. */
    private String seenOfUndos() {
        StringBuilder seen = new StringBuilder();
        for (int i = 0; i < 16 && ask(seen, "undo()") != Edges.NONE; i++) {
            askBeds(seen);
        }
        return seen.toString();
    }

    private long ask(StringBuilder seen, String call) {
        long answer = answer(call);
        seen.append(call).append(" = ").append(answer).append("; ");
        return answer;
    }

    private void askRow(StringBuilder seen) {
        long numbers = Math.min(20, answer("count(9)"));
        for (int i = 0; i < numbers; i++) {
            ask(seen, "row(" + i + ")");
        }
    }

    private void askBeds(StringBuilder seen) {
        long oysters = Math.min(8, answer("count(0)"));
        for (int i = 0; i < oysters; i++) {
            for (int what = 1; what < 5; what++) {
                ask(seen, "oyster(" + i + ", " + what + ")");
            }
        }
        ask(seen, "count(2)");
        ask(seen, "count(3)");
    }

    /** How an object comes to be as it is ahead of a call. */
    interface Scene {
        Run set(Run x);
    }

    private static void same(Scene scene, Scene with, Scene without, String sentence) {
        Run x = with.set(scene.set(new Run(sentence)));
        Run y = without.set(scene.set(new Run(sentence)));
        CHECKS.due(sentence + ": leaves all as it was", told(x.seenOfAll(), y.seenOfAll()), true);
        Run u = with.set(scene.set(new Run(sentence)));
        Run v = without.set(scene.set(new Run(sentence)));
        CHECKS.due(sentence + ": leaves what can be undone",
                told(u.seenOfUndos(), v.seenOfUndos()), true);
    }

    private static boolean told(String got, String want) {
        if (got.equals(want)) {
            return true;
        }
        String[] a = got.split("; ");
        String[] b = want.split("; ");
        int i = 0;
        while (i < a.length - 1 && i < b.length - 1 && a[i].equals(b[i])) {
            i++;
        }
        System.out.println("  then " + a[i] + ", without the call " + b[i]);
        return false;
    }

    /** That with these calls all is as it is without them. */
    static void alike(int promise, String quote, Scene scene, Scene with, Scene without) {
        same(scene, with, without, of(promise, quote).sentence);
    }

    /** A call that is refused, with this answer: it leaves all as it was, the ROW too. */
    static void refused(int promise, String quote, Scene scene, long want, String... some) {
        String sentence = of(promise, quote).sentence;
        for (String call : some) {
            same(scene, x -> x.due(call, want), x -> x, sentence + ": " + call);
        }
    }

    static void refused(int promise, String quote, long want, String... some) {
        refused(promise, quote, Run::busy, want, some);
    }

    /** A call that reads a text and is refused leaves all but THE TEXT, which it empties. */
    static void refusedText(int promise, String quote, String call, String signs, long want) {
        String sentence = of(promise, quote).sentence;
        same(Run::busy, x -> x.does("end(0)").reads(call, signs, want), x -> x.does("end(0)"),
                sentence + ": " + call + " of '" + signs + "'");
    }

    /** A call that tells a ROW at most leaves all else as it was. */
    static void onlyTells(int promise, String quote, Scene scene, String... some) {
        String sentence = of(promise, quote).sentence;
        for (String call : some) {
            same(scene, x -> x.does(call, "later(0)"), x -> x.does("later(0)"),
                    sentence + ": " + call);
        }
    }

    static void onlyTells(int promise, String quote, String... some) {
        onlyTells(promise, quote, Run::busy, some);
    }
}
