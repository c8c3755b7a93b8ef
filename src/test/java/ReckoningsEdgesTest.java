/** The edges that promises 32 to 49 name: each sentence in a test of its own. */
public final class ReckoningsEdgesTest extends Edges {
    public static void main(String[] args) {
        promise32();
        promise33();
        promises32And33All();
        promise34();
        promise35();
        promise36();
        promise37();
        promise38();
        promise38OneOrNot();
        promise38Now();
        promise39();
        promise40();
        promise41();
        promise42();
        promise43();
        promise44();
        promise45();
        promise46();
        promise46All();
        promise47();
        promise48();
        promise49();
        promise49Draws();
        Run.end();
    }

    private static String[] noOysters(String call) {
        return new String[] {call + "(-1)", call + "(4)", call + "(8)", call + "(" + MIN + ")",
            call + "(" + MAX + ")"};
    }

    private static void noneSuch(int promise, String call) {
        Run.refused(promise, "NONE: none such.", NONE, noOysters(call));
        Run.of(promise, "NONE: none such.").due(call + "(0)", NONE).with(EIGHT)
                .due(call + "(8)", NONE).due(call + "(-1)", NONE).with("n000")
                .due(call + "(9)", NONE);
    }

    // ---- promises 32 to 35

    private static void promise32() {
        String counts = "Each OYSTER counts 10 less its FEAR; a set decides, if it counts more than "
                + "half of all.";
        Run.of(32, counts).with("n000;n900").due("power(0)", 0, 1, 1).due("power(1)", 0, 0, 1);
        Run.of(32, counts).with("n500;n500").due("power(0)", 0, 1, 2).due("power(1)", 0, 1, 2);
        // 2 and 1 and 1: two alone are just half.
        Run.of(32, counts).with("n800;n900;n900").due("power(0)", 0, 3, 4)
                .due("power(1)", 0, 1, 4).due("power(2)", 0, 1, 4);
        // 3 and 1 and 1: three are more than half.
        Run.of(32, counts).with("n700;n900;n900").due("power(0)", 0, 1, 1)
                .due("power(1)", 0, 0, 1).does("stills(0, 9)").due("power(1)", 0, 1, 2);
        String sets = "Of all sets of the others, the empty one, too, how many do not decide, but "
                + "do with one OYSTER: 0; the ROW: that by all these sets, as a fraction.";
        Run.of(32, sets).with("n900").due("power(0)", 0, 1, 1);
        Run.of(32, sets).with("n000;n000;n000").due("power(1)", 0, 1, 2);
        Run.of(32, sets).with(EIGHT).due("power(0)", 0, 35, 128).due("power(7)", 0, 35, 128);
        Run.of(32, sets).with("n000;n900;n900;n900;n900;n900;n900;n900")
                .due("power(0)", 0, 1, 1).due("power(7)", 0, 0, 1).does("stills(0, 3)")
                .due("power(0)", 0, 127, 128).due("power(7)", 0, 1, 128);
        noneSuch(32, "power");
    }

    private static void promise33() {
        String orders = "Of all orders in which OYSTERS can come, one behind the other, in how many "
                + "those who came decide (as power()) first when one OYSTER comes: 0; the ROW: "
                + "that by all orders, as a fraction.";
        Run.of(33, orders).with("n900").due("pivots(0)", 0, 1, 1);
        Run.of(33, orders).with("n000;n900").due("pivots(0)", 0, 1, 1).due("pivots(1)", 0, 0, 1);
        Run.of(33, orders).with("n500;n500").due("pivots(0)", 0, 1, 2).due("pivots(1)", 0, 1, 2);
        Run.of(33, orders).with("n800;n900;n900").due("pivots(0)", 0, 2, 3)
                .due("pivots(1)", 0, 1, 6).due("pivots(2)", 0, 1, 6);
        Run.of(33, orders).with(EIGHT).due("pivots(0)", 0, 1, 8).due("pivots(7)", 0, 1, 8);
        // Seven and seven ones: in front of it no one comes, or all: it decides, but ahead of all.
        Run.of(33, orders).with("n300;n900;n900;n900;n900;n900;n900;n900")
                .due("pivots(0)", 0, 7, 8).due("pivots(7)", 0, 1, 56);
        noneSuch(33, "pivots");
    }

    /** Of all orders of OYSTERS, and of all sets ahead of one, in how many it is the one. */
    private static void comes(int[] counts, int all, int came, int[] firsts) {
        int sum = 0;
        for (int o = 0; o < counts.length; o++) {
            sum += (came >> o & 1) * counts[o];
        }
        for (int o = 0; o < counts.length; o++) {
            if ((came >> o & 1) == 0 && 2 * sum <= all && 2 * (sum + counts[o]) > all) {
                int rest = 1;
                for (int left = counts.length - Integer.bitCount(came) - 1; left > 1; left--) {
                    rest *= left;
                }
                firsts[o] += rest;
            } else if ((came >> o & 1) == 0) {
                comes(counts, all, came | 1 << o, firsts);
            }
        }
    }

    private static long[] fraction(long upper, long lower) {
        long by = lower;
        while (upper % by != 0 || lower % by != 0) {
            by--;
        }
        return new long[] {upper / by, lower / by};
    }

    private static void promises32And33All() {
        String[] beds = {"9", "90", "09", "951", "159", "0369", "99980", "531246", "0000009",
            "90246813", "12345678", "99999990"};
        for (String fears : beds) {
            int many = fears.length();
            int[] counts = new int[many];
            int all = 0;
            int orders = 1;
            StringBuilder lines = new StringBuilder();
            for (int o = 0; o < many; o++) {
                counts[o] = 10 - (fears.charAt(o) - '0');
                all += counts[o];
                orders *= o + 1;
                lines.append(o > 0 ? ";n" : "n").append(fears.charAt(o)).append("00");
            }
            int[] firsts = new int[many];
            comes(counts, all, 0, firsts);
            for (int o = 0; o < many; o++) {
                int sets = 0;
                for (int set = 0; set < 1 << many; set++) {
                    int sum = 0;
                    for (int other = 0; other < many; other++) {
                        sum += (set >> other & 1) * counts[other];
                    }
                    boolean turns = 2 * sum <= all && 2 * (sum + counts[o]) > all;
                    sets += (set >> o & 1) == 0 && turns ? 1 : 0;
                }
                Run.of(32, "Of all sets of the others").with(lines.toString())
                        .due("power(" + o + ")", 0, fraction(sets, 1 << many - 1));
                Run.of(33, "Of all orders in which OYSTERS can come").with(lines.toString())
                        .due("pivots(" + o + ")", 0, fraction(firsts[o], orders));
            }
        }
    }

    private static void promise34() {
        String fewest = "The fewest OYSTERS that decide (as power()): how many; the ROW: they "
                + "(bits: of as few the least), of how many TOPICS all of these hold alike.";
        Run.of(34, fewest).with("n900").due("rules()", 1, 1, 4);
        Run.of(34, fewest).with("n900;n015").due("rules()", 1, 2, 4);
        Run.of(34, fewest).with("n000;n015").due("rules()", 2, 3, 0);
        Run.of(34, fewest).with("n015;n000").due("rules()", 2, 3, 0);
        Run.of(34, fewest).with("n015;n015").due("rules()", 2, 3, 4);
        Run.of(34, fewest).with("n012;n010").due("rules()", 2, 3, 2);
        Run.of(34, fewest).with("n000;n007;n000").due("rules()", 2, 3, 1);
        Run.of(34, fewest).with("n900;n003;n005").due("rules()", 2, 3, 2);
        Run.of(34, fewest).with("n900;n703;n900;n505").due("rules()", 2, 9, 2);
        Run.of(34, fewest).with("n800;n900;n900").due("rules()", 2, 3, 4);
        Run.of(34, fewest).with("n700;n900;n900").due("rules()", 1, 1, 4);
        Run.of(34, fewest).with(EIGHT).due("rules()", 5, 31, 4).does("holds(7, 15)")
                .due("rules()", 5, 31, 4).does("holds(4, 8)").due("rules()", 5, 31, 3);
        Run.of(34, "-2: there are no OYSTERS.").due("rules()", -2).with("n000")
                .due("rules()", 1, 1, 4);
        Run.refused(34, "-2: there are no OYSTERS.", x -> x.does("shyest(0, 0)"), -2, "rules()");
    }

    private static void promise35() {
        String parted = "OYSTERS are parted in two so that what both parts count (as power()) "
                + "differs the least: by how much; the ROW: one part (bits: of as good ones the "
                + "least), what it counts.";
        Run.of(35, parted).due("parties()", 0, 0, 0);
        Run.of(35, parted).with("n300").due("parties()", 7, 0, 0);
        Run.of(35, parted).with("n500;n500").due("parties()", 0, 1, 5);
        Run.of(35, parted).with("n000;n900").due("parties()", 9, 1, 10);
        Run.of(35, parted).with("n900;n000").due("parties()", 9, 1, 1);
        Run.of(35, parted).with("n000;n500;n500").due("parties()", 0, 1, 10);
        Run.of(35, parted).with("n500;n500;n000").due("parties()", 0, 3, 10);
        Run.of(35, parted).with("n500;n500;n500").due("parties()", 5, 1, 5);
        Run.of(35, parted).with(EIGHT).due("parties()", 0, 15, 40).does("stills(7, 1)")
                .due("parties()", 1, 15, 40);
        Run.of(35, parted).with("n000;n000;n900;n900").due("parties()", 0, 5, 11);
    }

    // ---- promises 36 and 37

    private static void promise36() {
        String many = "just n (0 .. 8) would CLOSE: how many such";
        Run.of(36, many).due("seen(0, 0, 0)", 1).due("seen(3, 9, 8)", 2).due("seen(0, 9, 8)", 3)
                .due("seen(3, 0, 0)", 4).due("count(6)", 4);
        String others = "Refused: others, 10.";
        Run.refused(36, others, NONE, "seen(-1, 0, 0)", "seen(4, 0, 0)", "seen(0, -1, 0)",
                "seen(0, 10, 0)", "seen(0, 0, -1)", "seen(0, 0, 9)", "seen(" + MIN + ", 0, 0)",
                "seen(0, " + MAX + ", 0)", "seen(0, 0, " + MIN + ")", "seen(0, 0, " + MAX + ")");
        Run x = Run.of(36, others);
        for (int i = 1; i <= 10; i++) {
            x.due("seen(0, 0, 0)", i);
        }
        x.due("seen(0, 0, 0)", NONE).due("count(6)", 10).due("seen(0, 0, 1)", NONE)
                .due("forget()", 10).due("seen(0, 0, 1)", 1).due("count(6)", 1);
        Run.refused(36, others, y -> y.busy().doesTimes(8, "seen(3, 3, 1)"), NONE,
                "seen(0, 0, 0)", "seen(3, 3, 1)", "seen(3, 3, 2)");
    }

    private static void promise37() {
        String many = "It is forgotten: how many there were.";
        Run.of(37, many).due("forget()", 0).does("seen(0, 0, 0)").due("forget()", 1)
                .due("forget()", 0).due("count(6)", 0).doesTimes(11, "seen(0, 0, 0)")
                .due("forget()", 10).due("forget()", 0);
        Run.of(37, many).with("n000", "v").does("seen(0, 0, 1)").due("cares(0)", 43690, 8, 1, 15)
                .does("forget()").due("cares(0)", 65535, 16, 0, 15).does("seen(3, 0, 1)")
                .due("cares(0)", 65280, 8, 8, 15);
        Run.alike(37, many, Run::busy, x -> x.does("forget()", "seen(1, 2, 3)", "seen(0, 9, 1)"),
                x -> x);
    }

    // ---- promises 38 and 39

    private static void promise38() {
        String all = "VIEWS that an OYSTER can have (bits 0 .. 15), so that all that was seen is so";
        Run.of(38, all).with("n000", "v").due("cares(0)", 65535, 16, 0, 15)
                .does("seen(0, 0, 1)").due("cares(0)", 43690, 8, 1, 15).does("seen(1, 0, 0)")
                .due("cares(0)", 8738, 4, 1, 13).does("seen(2, 0, 0)")
                .due("cares(0)", 514, 2, 1, 9).does("seen(3, 0, 1)").due("cares(0)", 512, 1, 9, 9)
                .does("seen(3, 9, 0)").due("cares(0)", 0, 0);
        Run.of(38, all).with("n000", "v").does("seen(0, 0, 0)", "seen(1, 0, 0)", "seen(2, 0, 0)",
                "seen(3, 0, 0)").due("cares(0)", 1, 1, 0, 0);
        Run.of(38, all).with("n000", "v").does("seen(0, 0, 1)", "seen(1, 0, 1)", "seen(2, 0, 1)",
                "seen(3, 0, 1)").due("cares(0)", 32768, 1, 15, 15);
        Run.of(38, all).with(EIGHT, "v").doesTimes(9, "seen(0, 0, 0)").does("seen(3, 9, 1)")
                .due("cares(7)", 21760, 4, 8, 14).due("cares(0)", 21760, 4, 8, 14);
        Run.of(38, all).with(EIGHT, "1").does("seen(0, 0, 8)").due("cares(7)", 65535, 16, 0, 15)
                .does("seen(0, 0, 7)").due("cares(7)", 0, 0);
        String row = "the ROW: how many, the least, the greatest one (nothing more without)";
        Run.of(38, row).with("n000", "v").does("seen(0, 0, 2)").due("cares(0)", 0, 0)
                .does("forget()").due("cares(0)", 65535, 16, 0, 15);
        noneSuch(38, "cares");
    }

    /** It holds yes by just 1, no by just 0. */
    private static void promise38OneOrNot() {
        String all = "so that all that was seen is so";
        Run.of(38, all).with("n000", "v=1").does("seen(3, 0, 1)").due("cares(0)", 65280, 8, 8, 15)
                .does("seen(0, 0, 0)").due("cares(0)", 21760, 4, 8, 14);
        Run.of(38, all).with("n000", "v=0").does("seen(3, 0, 1)").due("cares(0)", 255, 8, 0, 7)
                .does("seen(0, 0, 0)").due("cares(0)", 170, 4, 1, 7);
        Run.of(38, all).with("n003;n500").does("seen(0, 0, 2)").due("cares(1)", 43690, 8, 1, 15)
                .does("seen(1, 5, 1)").due("cares(1)", 8738, 4, 1, 13);
        String next = "the fewest of these VIEWS are left at most";
        Run.of(39, next).with("n000", "v=1").due("next(0)", 0, 8);
        Run.of(39, next).with("n000", "v=0").due("next(0)", 0, 8).does("seen(0, 0, 1)")
                .due("next(0)", 10, 4);
        Run.of(39, next).with("n000", "v+v<2").due("next(0)", 0, 8);
        Run.of(39, next).with("n000", "v>1").due("next(0)", 0, 16);
    }

    private static void promise38Now() {
        String now = "all else being as it is";
        Run.of(38, now).with("n901;n001;n000", "v").does("seen(0, 0, 2)")
                .due("cares(0)", 43690, 8, 1, 15).due("cares(1)", 43690, 8, 1, 15)
                .due("cares(2)", 21845, 8, 0, 14).does("holds(0, 0)").due("cares(0)", 43690, 8, 1, 15)
                .due("cares(1)", 0, 0).due("cares(2)", 43690, 8, 1, 15)
                .does("holds(0, 1)", "puts(0, 0)", "tides(1)").due("cares(0)", 0, 0).due("cares(2)", 43690, 8, 1, 15);
        String shut = "VIEWS that an OYSTER can have";
        Run.of(38, shut).with("n901;n000", "v").does("puts(0, 0)", "seen(0, 0, 0)")
                .due("cares(0)", 65535, 16, 0, 15).does("seen(1, 0, 1)").due("cares(0)", 0, 0)
                .due("cares(1)", 17476, 4, 2, 14).due("oyster(0, 2)", 1);
        Run.of(36, "(as all is when cares() is asked)").with("n000", "v*f").does("seen(0, 0, 1)")
                .due("cares(0)", 0, 0).does("stills(0, 1)").due("cares(0)", 43690, 8, 1, 15)
                .reads("rule()", "v=0", 0).due("cares(0)", 21845, 8, 0, 14);
    }

    private static void promise39() {
        String next = "so that, however many would CLOSE, the fewest of these VIEWS are left at "
                + "most: 10 times TOPIC and WORDING, of equal ones the least; the ROW: how many at "
                + "most.";
        Run.of(39, next).with("n000", "v").due("next(0)", 0, 8).does("seen(0, 0, 1)")
                .due("next(0)", 10, 4).does("seen(1, 5, 0)").due("next(0)", 20, 2)
                .does("seen(2, 0, 0)").due("next(0)", 30, 1).does("seen(3, 0, 0)")
                .due("next(0)", 0, 1);
        Run.of(39, next).with("n000", "v*(w=9)").due("next(0)", 9, 8)
                .does("seen(0, 9, 1)", "seen(1, 9, 1)", "seen(2, 9, 1)").due("next(0)", 39, 1);
        Run.of(39, next).with("n000", "v=0").due("next(0)", 0, 8);
        Run.of(39, next).with("n000;n000", "1").due("next(1)", 0, 16).does("puts(0, 0)")
                .due("next(0)", 0, 16);
        Run.of(39, next).with(EIGHT, "1").due("next(7)", 0, 16).reads("rule()", "v+w>8", 0)
                .due("next(7)", 8, 8).does("seen(0, 8, 0)").due("next(7)", 18, 4);
        Run.of(39, next).with(EIGHT, "v").does("seen(3, 0, 0)", "seen(2, 0, 1)")
                .due("next(7)", 0, 2).due("count(1)", 255);
        String none = "-2: none is left";
        Run.of(39, none).with("n000", "v").does("seen(0, 0, 2)").due("next(0)", -2)
                .does("forget()").due("next(0)", 0, 8);
        Run.refused(39, none, x -> x.busy().does("seen(1, 1, 8)"), -2, "next(0)", "next(3)");
        noneSuch(39, "next");
    }

    // ---- promises 40 to 43

    private static void promise40() {
        String heard = "what 0: KIND is v (0 .. 2); 1: FEAR is v (0 .. 9) or more; 2: it holds yes "
                + "of TOPIC v (0 .. 3); 3: it is OPEN (1) or not (0); 4: PEARL is v (0 .. 9) or "
                + "more: how many such.";
        Run.of(40, heard).due("heard(0, 0)", 1).due("heard(0, 2)", 2).due("heard(1, 0)", 3)
                .due("heard(1, 9)", 4).due("heard(2, 0)", 5).due("heard(2, 3)", 6)
                .due("heard(3, 0)", 7).due("heard(3, 1)", 8).due("heard(4, 0)", 9)
                .due("heard(4, 9)", 10).due("heard(0, 1)", 11).due("heard(0, 0)", 12)
                .due("heard(0, 0)", NONE).due("count(7)", 12);
        String others = "Refused: others, 12.";
        Run.refused(40, others, NONE, "heard(-1, 0)", "heard(5, 0)", "heard(0, -1)",
                "heard(0, 3)", "heard(1, -1)", "heard(1, 10)", "heard(2, -1)", "heard(2, 4)",
                "heard(3, -1)", "heard(3, 2)", "heard(4, -1)", "heard(4, 10)",
                "heard(" + MIN + ", 0)", "heard(" + MAX + ", 0)", "heard(0, " + MIN + ")",
                "heard(4, " + MAX + ")");
        Run.refused(40, others, x -> x.busy().doesTimes(10, "heard(1, 0)"), NONE, "heard(1, 0)",
                "heard(1, 9)", "heard(0, 0)");
        Run.of(40, others).doesTimes(11, "heard(1, 0)").due("heard(1, 0)", 12)
                .due("heard(1, 0)", NONE).due("denies()", 12).due("heard(1, 0)", 1);
    }

    private static void promise41() {
        String many = "It is denied: how many there were.";
        Run.of(41, many).due("denies()", 0).does("heard(0, 0)").due("denies()", 1)
                .due("denies()", 0).due("count(7)", 0).doesTimes(13, "heard(0, 0)")
                .due("denies()", 12).due("denies()", 0);
        Run.of(41, many).with("n000;p000").does("heard(0, 1)").due("fits()", 2, 1)
                .does("denies()").due("fits()", 3, 2).does("heard(0, 0)").due("fits()", 1, 1);
        Run.alike(41, many, Run::busy, x -> x.does("denies()", "heard(1, 2)", "heard(2, 1)"),
                x -> x);
    }

    private static void fit(Run x, int what, int v, int bits) {
        x.does("denies()", "heard(" + what + ", " + v + ")")
                .due("fits()", bits, Integer.bitCount(bits));
    }

    private static void promise42() {
        String fits = "OYSTERS (bits) that fit all that was heard; the ROW: how many.";
        Run.of(42, fits).due("fits()", 0, 0).does("heard(1, 0)").due("fits()", 0, 0);
        Run.of(42, fits).with(EIGHT).due("fits()", 255, 8).doesTimes(12, "heard(1, 0)")
                .due("fits()", 255, 8).does("denies()", "heard(1, 1)").due("fits()", 0, 0);
        Run.of(42, fits).with("n001;n003;n002").does("heard(2, 0)").due("fits()", 3, 2)
                .does("heard(2, 1)").due("fits()", 2, 1).does("heard(2, 2)").due("fits()", 0, 0);
        Run x = Run.of(40, "0: KIND is v (0 .. 2)").with("n000;p000;r000;n000");
        fit(x, 0, 0, 9);
        fit(x, 0, 1, 2);
        fit(x, 0, 2, 4);
        Run y = Run.of(40, "1: FEAR is v (0 .. 9) or more").with("n000;n100;n800;n900;n500");
        fit(y, 1, 0, 31);
        fit(y, 1, 1, 30);
        fit(y, 1, 5, 28);
        fit(y, 1, 6, 12);
        fit(y, 1, 8, 12);
        fit(y, 1, 9, 8);
        Run z = Run.of(40, "2: it holds yes of TOPIC v (0 .. 3)").with("n001;n002;n004;n008;n015");
        fit(z, 2, 0, 17);
        fit(z, 2, 1, 18);
        fit(z, 2, 2, 20);
        fit(z, 2, 3, 24);
        Run u = Run.of(40, "3: it is OPEN (1) or not (0)").with("n000;n900;n100", "f")
                .does("puts(0, 0)");
        fit(u, 3, 1, 1);
        fit(u, 3, 0, 6);
        u.does("tides(1)");
        fit(u, 3, 1, 5);
        fit(u, 3, 0, 2);
        Run w = Run.of(40, "4: PEARL is v (0 .. 9) or more").with("n001;n000", "v");
        w.doesTimes(8, "puts(0, 0)", "tides(1)");
        fit(w, 4, 0, 3);
        fit(w, 4, 1, 1);
        fit(w, 4, 8, 1);
        fit(w, 4, 9, 0);
        w.does("puts(0, 0)", "tides(1)");
        fit(w, 4, 9, 1);
        w.does("puts(0, 0)", "tides(1)").due("oyster(0, 4)", 10);
        fit(w, 4, 9, 1);
    }

    private static void promise43() {
        String ask = "What to ask next, so that, it is so or not, the fewest such OYSTERS are left "
                + "at most: 10 times what and v, as they may be heard, of equal ones the least; the "
                + "ROW: how many at most.";
        Run.of(43, ask).with("n000").due("asks()", 0, 1);
        Run.of(43, ask).with(EIGHT).due("asks()", 0, 8);
        Run.of(43, ask).with("n000;p000").due("asks()", 0, 1);
        Run.of(43, ask).with("p000;r000").due("asks()", 1, 1);
        Run.of(43, ask).with("n000;p000;r000;r000").due("asks()", 2, 2);
        Run.of(43, ask).with("n000;n100").due("asks()", 11, 1);
        Run.of(43, ask).with("n800;n900").due("asks()", 19, 1);
        Run.of(43, ask).with("n001;n000").due("asks()", 20, 1);
        Run.of(43, ask).with("n008;n000").due("asks()", 23, 1);
        Run.of(43, ask).with("n001;n000;n000;n000;n008;n008").due("asks()", 23, 4);
        Run.of(43, ask).with("n000;n900", "f").does("puts(0, 0)", "stills(1, 0)")
                .due("asks()", 30, 1);
        Run x = Run.of(43, ask).with("n001;n000", "v").does("puts(0, 0)", "tides(1)", "holds(1, 1)")
                .due("asks()", 41, 1);
        for (int pearl = 2; pearl <= 9; pearl++) {
            x.does("puts(0, 0)", "tides(1)").due("asks()", 40 + pearl, 1);
        }
        x.does("puts(0, 0)", "tides(1)").due("asks()", 0, 2);
        for (int fear = 1; fear <= 9; fear++) {
            Run.of(43, ask).with("n" + fear + "00;n" + (fear - 1) + "00")
                    .due("asks()", 10 + fear, 1);
        }
        for (int topic = 0; topic <= 3; topic++) {
            Run.of(43, ask).with("n000;n0" + (1 << topic) / 10 + (1 << topic) % 10)
                    .due("asks()", 20 + topic, 1);
        }
        Run.of(43, ask).with("n000;p000;p900").does("heard(0, 1)").due("asks()", 11, 1)
                .does("heard(1, 1)").due("asks()", 0, 1);
        String none = "-2: none fits.";
        Run.of(43, none).due("asks()", -2).with("n000").due("asks()", 0, 1).does("heard(0, 1)")
                .due("asks()", -2).does("denies()").due("asks()", 0, 1);
        Run.refused(43, none, x2 -> x2.busy().does("heard(4, 9)"), -2, "asks()");
        Run.refused(43, none, x2 -> x2.does("shyest(0, 0)"), -2, "asks()");
    }

    // ---- promises 44 and 45

    private static void promise44() {
        String slips = "each that is OPEN does by p tenths (0 .. 10) otherwise than it would, each "
                + "by itself: how likely just n (0 .. 8) CLOSE: 0; the ROW: the fraction.";
        Run x = Run.of(44, slips).with(EIGHT, "1");
        x.due("slips(0, 0, 0, 8)", 0, 1, 1).due("slips(0, 0, 0, 7)", 0, 0, 1)
                .due("slips(0, 0, 10, 0)", 0, 1, 1).due("slips(0, 0, 10, 8)", 0, 0, 1)
                .due("slips(0, 0, 5, 0)", 0, 1, 256).due("slips(0, 0, 5, 8)", 0, 1, 256)
                .due("slips(0, 0, 1, 8)", 0, 43046721, 100000000)
                .due("slips(0, 0, 9, 8)", 0, 1, 100000000)
                .due("slips(0, 0, 1, 0)", 0, 1, 100000000);
        Run.of(44, slips).with("n001;n001;n000", "v").due("slips(0, 0, 0, 2)", 0, 1, 1)
                .due("slips(0, 0, 10, 1)", 0, 1, 1).due("slips(0, 0, 10, 2)", 0, 0, 1)
                .due("slips(0, 0, 1, 3)", 0, 81, 1000).due("slips(0, 0, 1, 0)", 0, 9, 1000)
                .due("slips(0, 0, 1, 2)", 0, 747, 1000).due("slips(0, 0, 1, 1)", 0, 163, 1000)
                .due("slips(0, 0, 1, 4)", 0, 0, 1).due("slips(3, 9, 1, 0)", 0, 729, 1000);
        Run.of(44, slips).due("slips(0, 0, 5, 0)", 0, 1, 1).due("slips(3, 9, 10, 8)", 0, 0, 1);
        Run.of(44, slips).with("n900;n000", "f").does("puts(0, 0)").reads("rule()", "1", 0)
                .due("slips(0, 0, 2, 1)", 0, 4, 5).due("slips(0, 0, 2, 2)", 0, 0, 1)
                .due("slips(0, 0, 2, 0)", 0, 1, 5);
        Run.of(44, slips).with("n008", "v*(w=9)").due("slips(3, 9, 0, 1)", 0, 1, 1)
                .due("slips(3, 8, 0, 1)", 0, 0, 1).due("slips(2, 9, 0, 1)", 0, 0, 1);
        Run.refused(44, "NONE: others.", NONE, "slips(-1, 0, 0, 0)", "slips(4, 0, 0, 0)",
                "slips(0, -1, 0, 0)", "slips(0, 10, 0, 0)", "slips(0, 0, -1, 0)",
                "slips(0, 0, 11, 0)", "slips(0, 0, 0, -1)", "slips(0, 0, 0, 9)",
                "slips(" + MIN + ", 0, 0, 0)", "slips(0, " + MAX + ", 0, 0)",
                "slips(0, 0, " + MIN + ", 0)", "slips(0, 0, 0, " + MAX + ")");
    }

    private static void promise45() {
        String sound = "A thing is so by a tenths (0 .. 10); each of n oysters (0 .. 8) closes by b "
                + "tenths, if it is so, else by c tenths (0 .. 10 each), each by itself; k (0 .. "
                + "n) closed: how likely it is so: 0; the ROW: the fraction.";
        Run.of(45, sound).due("sound(0, 5, 5, 0, 0)", 0, 0, 1).due("sound(10, 5, 5, 0, 0)", 0, 1, 1)
                .due("sound(1, 5, 5, 0, 0)", 0, 1, 10).due("sound(9, 0, 10, 0, 0)", 0, 9, 10)
                .due("sound(5, 8, 2, 1, 1)", 0, 4, 5).due("sound(5, 8, 2, 1, 0)", 0, 1, 5)
                .due("sound(5, 10, 0, 1, 1)", 0, 1, 1).due("sound(5, 10, 0, 1, 0)", 0, 0, 1)
                .due("sound(5, 0, 10, 8, 8)", 0, 0, 1).due("sound(5, 0, 10, 8, 0)", 0, 1, 1)
                .due("sound(2, 8, 4, 2, 1)", 0, 1, 7).due("sound(5, 9, 1, 8, 4)", 0, 1, 2)
                .due("sound(5, 1, 9, 8, 8)", 0, 1, 43046722)
                .due("sound(5, 9, 1, 8, 8)", 0, 43046721, 43046722)
                .due("sound(5, 9, 1, 8, 0)", 0, 1, 43046722)
                .due("sound(9, 10, 9, 8, 8)", 0, 100000000, 104782969);
        String never = "-2: it can't have been";
        Run.of(45, never).due("sound(10, 0, 5, 1, 1)", -2).due("sound(10, 0, 5, 1, 0)", 0, 1, 1)
                .due("sound(10, 10, 5, 2, 1)", -2).due("sound(10, 10, 5, 2, 2)", 0, 1, 1)
                .due("sound(0, 5, 0, 1, 1)", -2).due("sound(0, 5, 0, 1, 0)", 0, 0, 1)
                .due("sound(0, 5, 10, 8, 7)", -2).due("sound(5, 0, 0, 3, 1)", -2)
                .due("sound(5, 0, 10, 3, 1)", -2).due("sound(5, 10, 10, 8, 7)", -2)
                .due("sound(5, 10, 0, 3, 3)", 0, 1, 1).due("sound(1, 0, 1, 8, 8)", 0, 0, 1);
        Run.refused(45, never, -2, "sound(10, 0, 5, 1, 1)", "sound(5, 0, 0, 8, 8)");
        Run.refused(45, "NONE: others.", NONE, "sound(-1, 5, 5, 1, 1)", "sound(11, 5, 5, 1, 1)",
                "sound(5, -1, 5, 1, 1)", "sound(5, 11, 5, 1, 1)", "sound(5, 5, -1, 1, 1)",
                "sound(5, 5, 11, 1, 1)", "sound(5, 5, 5, -1, 0)", "sound(5, 5, 5, -1, -1)",
                "sound(5, 5, 5, 9, 1)", "sound(5, 5, 5, 9, 9)", "sound(5, 5, 5, 3, -1)",
                "sound(5, 5, 5, 3, 4)", "sound(5, 5, 5, 0, 1)", "sound(5, 5, 5, 8, 9)",
                "sound(10, 0, 5, 1, 2)", "sound(" + MIN + ", 5, 5, 1, 1)",
                "sound(5, " + MAX + ", 5, 1, 1)", "sound(5, 5, " + MIN + ", 1, 1)",
                "sound(5, 5, 5, " + MAX + ", 1)", "sound(5, 5, 5, 8, " + MAX + ")");
    }

    // ---- promise 46

    private static void promise46() {
        String least = "the least number by which the first one wins; 0: by none (n 0, too: who is "
                + "to take has won)";
        Run.of(46, least).due("firm(0, 2)", 0).due("firm(0, 30)", 0).due("firm(1, 2)", 0)
                .due("firm(1, 30)", 0).due("firm(2, 2)", 1).due("firm(3, 2)", 2)
                .due("firm(4, 2)", 0).due("firm(4, 3)", 3).due("firm(5, 4)", 0)
                .due("firm(60, 2)", 2).due("firm(60, 3)", 3).due("firm(59, 2)", 1)
                .due("firm(59, 3)", 2);
        String out = "take out of n (0 .. 60) oysters 1, or a prime number of them (2, 3, 5, 7, "
                + "..), at most k (2 .. 30)";
        Run.of(46, out).due("firm(5, 30)", 0).due("firm(9, 4)", 0).due("firm(9, 5)", 0)
                .due("firm(10, 4)", 1).due("firm(10, 5)", 1).due("firm(11, 30)", 2);
        Run.refused(46, "NONE: others.", NONE, "firm(-1, 2)", "firm(61, 2)", "firm(5, 1)",
                "firm(5, 31)", "firm(0, 1)", "firm(0, 31)", "firm(60, 0)", "firm(5, -1)",
                "firm(61, 31)", "firm(" + MIN + ", 5)", "firm(" + MAX + ", 5)",
                "firm(5, " + MIN + ")", "firm(5, " + MAX + ")");
    }

    private static boolean isPrime(int number) {
        for (int d = 2; d < number; d++) {
            if (number % d == 0) {
                return false;
            }
        }
        return number > 1;
    }

    /** Once more by the words: who is to take out of none has won. */
    private static void promise46All() {
        for (int k = 2; k <= 30; k++) {
            Run x = Run.of(46, "who takes the last one has lost");
            int[] by = new int[61];
            for (int n = 0; n <= 60; n++) {
                for (int take = Math.min(k, n); take >= 1; take--) {
                    boolean otherLoses = n > take && by[n - take] == 0;
                    if ((take == 1 || isPrime(take)) && otherLoses) {
                        by[n] = take;
                    }
                }
                x.due("firm(" + n + ", " + k + ")", by[n]);
            }
        }
    }

    // ---- promises 47 and 48

    private static void promise47() {
        String another = "THE TEXT is another RULE (an empty one: none)";
        Run.of(47, another).with("n801;n901", "0").reads("law()", "", 22).row(22, 0)
                .reads("law()", "v*9-f+w", 22).row(22, 0).due("would(0, 9)", 0);
        Run.alike(47, another, x -> x.busy().does("end(0)"),
                x -> x.text("1").does("law()", "later(0)"), x -> x.does("later(0)"));
        String many = "how many would CLOSE by all 40 questions together now, by it, less by THE "
                + "RULE (below 0, too); the ROW: both.";
        Run.of(47, many).with(EIGHT, "0").reads("law()", "1", 320).row(320, 0);
        Run.of(47, many).with(EIGHT, "1").reads("law()", "0", -320).row(0, 320)
                .reads("law()", "1", 0).row(320, 320).reads("law()", "w=9", -288).row(32, 320);
        Run.of(47, many).with("n008;n000", "v*(w=9)").reads("law()", "v", 9).row(10, 1)
                .reads("law()", "0", -1).row(0, 1);
        Run.of(47, many).reads("law()", "1", 0).row(0, 0);
        Run.of(47, "would CLOSE by all 40 questions together now").with("n900;n000", "f")
                .does("puts(0, 0)").reads("law()", "1", 40).row(40, 0).does("tides(5)")
                .reads("law()", "1", 40).row(80, 40);
        String fault = "-100000 - p: the sign at p can't stand there (as rule())";
        Run.of(47, fault).with("n000", "1").does("later(0)").reads("law()", "x", -100000).row(1)
                .reads("law()", "1x", -100001).reads("law()", "1+", -100002)
                .reads("law()", "-".repeat(41), -100040).reads("law()", "-".repeat(80), -100040)
                .reads("law()", "-".repeat(40), -100040).row(1).reads("law()", "-".repeat(38) + "12", 0)
                .row(40, 40).due("would(0, 0)", 1);
        Run.refusedText(47, fault, "law()", "x", -100000);
        Run.refusedText(47, fault, "law()", "f<f<", -100003);
        Run.refusedText(47, fault, "law()", "-".repeat(80), -100040);
    }

    private static int worth(int v, int own, int other) {
        if (own == other) {
            return v / 3;
        }
        return own > other ? v - (own - other) : v / 2 - own;
    }

    private static void promise48() {
        String pairs = "Pairs by which neither would have more by another number alone: how many; "
                + "the ROW: the least (nothing without).";
        int without = 0;
        for (int v = 0; v <= 20; v++) {
            int many = 0;
            long[] least = {};
            for (int pair = 0; pair < 100; pair++) {
                int x = pair / 10;
                int y = pair % 10;
                boolean rests = true;
                for (int z = 0; z < 10; z++) {
                    rests &= worth(v, z, y) <= worth(v, x, y) && worth(v, z, x) <= worth(v, y, x);
                }
                many += rests ? 1 : 0;
                least = rests && many == 1 ? new long[] {x, y} : least;
            }
            without += many == 0 ? 1 : 0;
            Run.of(48, pairs).does("later(0)").due("wordings(" + v + ")", many).row(least);
        }
        Run.of(48, pairs).due("wordings(0)", 10, 0, 0).due("wordings(2)", 2, 0, 1)
                .due("wordings(20)", 0).row();
        if (without == 0) {
            Run.of(48, pairs + " (none is without)");
        }
        Run.refused(48, "NONE: another v.", NONE, "wordings(-1)", "wordings(21)",
                "wordings(" + MIN + ")", "wordings(" + MAX + ")");
    }

    // ---- promise 49

    /** The years by the rule v*(w<7)*(n<5)*k, by the words, of Portuguese: CLOSED, OPEN, PEARLS. */
    private static long[] yearsOf(int seed, int n, int[] fears, int[] views) {
        long r = seed & 0xffffffffL;
        int many = fears.length;
        int closed = 0;
        int tide = 0;
        int[] shut = new int[many];
        int[] holds = views.clone();
        int[][] by = {{}, {}, {4, 10}, {many, 16}};
        for (int i = 0; i < n; i++) {
            r = (r * 1103515245L + 12345L) & 0xffffffffL;
            int what = (int) (r / 65536 % 4);
            int[] drawn = new int[2];
            for (int j = 0; j < by[what].length; j++) {
                r = (r * 1103515245L + 12345L) & 0xffffffffL;
                drawn[j] = (int) (r / 65536 % by[what][j]);
            }
            if (what == 3) {
                holds[drawn[0]] = drawn[1];
            }
            for (int o = 0; o < many; o++) {
                boolean yes = what == 2 && (holds[o] >> drawn[0] & 1) == 1 && drawn[1] < 7;
                if (what < 2) {
                    shut[o] = Math.max(0, shut[o] - 1);
                } else if (yes && shut[o] == 0 && tide % 7 < 5) {
                    shut[o] = 1 + fears[o] / 2;
                    closed++;
                }
            }
            tide += what < 2 ? 1 : 0;
        }
        int open = 0;
        for (int o = 0; o < many; o++) {
            open |= shut[o] == 0 ? 1 << o : 0;
        }
        return new long[] {closed, open, closed};
    }

    private static final int[] FEARS = {9, 0, 2, 4, 6, 8, 1, 3};
    private static final int[] VIEWS = {13, 0, 15, 1, 2, 4, 8, 7};

    private static void years(String quote, int seed, int n) {
        for (int many : new int[] {1, 2, 7, 8}) {
            int[] fears = java.util.Arrays.copyOf(FEARS, many);
            int[] views = java.util.Arrays.copyOf(VIEWS, many);
            StringBuilder lines = new StringBuilder();
            for (int o = 0; o < many; o++) {
                lines.append(o > 0 ? ";" : "").append('p').append(fears[o])
                        .append(views[o] / 10).append(views[o] % 10);
            }
            long[] want = yearsOf(seed, n, fears, views);
            Run x = Run.of(49, quote).with(lines.toString(), "v*(w<7)*(n<5)*k")
                    .due("years(" + seed + ", " + n + ")", want[0], want[1], want[2])
                    .due("count(1)", (1 << many) - 1).due("count(2)", 0).due("count(3)", 0)
                    .due("count(4)", 0).due("count(8)", 0);
            for (int o = 0; o < many; o++) {
                x.due("oyster(" + o + ", 2)", views[o]);
            }
        }
    }

    private static void promise49() {
        String times = "n times (1 .. 60)";
        for (int n : new int[] {1, 2, 59, 60}) {
            for (int seed : new int[] {0, 1, -1, 7, 2026, Integer.MIN_VALUE, Integer.MAX_VALUE}) {
                years(times, seed, n);
            }
        }
        Run.of(49, times).with(BEDS).does("puts(0, 0)", "tides(60)").due("years(1, 1)", 1, 11, 4);
        Run.of(49, "(no DRAWS without OYSTERS)").due("years(1, 60)", 0, 0, 0)
                .due("years(-1, 60)", 0, 0, 0);
        Run.refused(49, "NONE: another n.", NONE, "years(1, 0)", "years(1, 61)", "years(1, -1)",
                "years(0, " + MIN + ")", "years(0, " + MAX + ")");
    }

    /** The seed by which R is this behind the first DRAW. */
    private static int seedFor(int r) {
        int inverse = 1;
        for (int i = 0; i < 5; i++) {
            inverse *= 2 - 1103515245 * inverse;
        }
        return (r - 12345) * inverse;
    }

    private static void promise49Draws() {
        // The first DRAW is 0, 1, 2, 3: two OYSTERS that are shut open in a TIDE, or don't.
        String tells = "a DRAW of 4 tells: 0, 1: A TIDE; 2: a DRAW of 4, a DRAW of 10: a question "
                + "is asked; 3: a DRAW of OYSTERS, a DRAW of 16 tell which has what VIEW then";
        for (int what = 0; what < 4; what++) {
            String call = "years(" + seedFor(what << 16) + ", 1)";
            Run.of(49, tells).with("n015;n015", "1").does("puts(0, 0)")
                    .due(call, 0, what < 2 ? 3 : 0, 2);
            Run.of(49, tells).with("n015;n015", "1").due(call, what == 2 ? 2 : 0,
                    what == 2 ? 0 : 3, what == 2 ? 2 : 0);
            for (int n = 1; n <= 6; n++) {
                years(tells, seedFor(what << 16), n);
            }
        }
        String draw = "(R without sign, by 65536) % n";
        int[] firsts = {0, 65535, 65536, 131071, 131072, 196607, 196608, 262143, 262144,
            Integer.MAX_VALUE, Integer.MIN_VALUE, Integer.MIN_VALUE + 65535,
            Integer.MIN_VALUE + 65536, -1, -65536, -65537, -131072, -131073, -196608, -262144};
        for (int first : firsts) {
            int seed = seedFor(first);
            for (int n = 1; n <= 4; n++) {
                years(draw, seed, n);
            }
        }
    }
}
