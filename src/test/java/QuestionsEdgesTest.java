/** The edges that promises 15 to 31 name: each sentence in a test of its own. */
public final class QuestionsEdgesTest extends Edges {
    public static void main(String[] args) {
        promise15();
        promise16();
        promise17();
        promise18();
        promise19();
        promise20();
        promise21();
        promise22();
        promise23();
        promise24();
        promise25();
        promise26();
        promise27();
        promise28();
        promise29();
        promise30();
        promise31();
        Run.end();
    }

    /** SHUT of eight then: 5, 4, 3, 2, 1, 0, 2, 0. */
    private static Run shut(int promise, String quote) {
        return Run.of(promise, quote)
                .with("n900;n700;n500;p300;p100;p000;r200;r000", "f").does("puts(0, 0)")
                .each(3, 5, 4, 3, 2, 1, 0, 2, 0);
    }

    // ---- promise 15

    private static void promise15() {
        String many = "How many would CLOSE by a question now: how many";
        Run.of(15, many).with(EIGHT, "1").due("would(0, 0)", 8, 255, 0)
                .reads("rule()", "0", 0).due("would(0, 0)", 0, 0, 0);
        Run.of(15, many).due("would(3, 9)", 0, 0, 0);
        Run.of(15, many).with("n008;n000", "v*(w=9)").due("would(3, 9)", 1, 1, 1)
                .due("would(3, 8)", 0, 0, 0).due("would(2, 9)", 0, 0, 0);
        Run.of(15, many).with("n001;n000", "v*(w=0)").due("would(0, 0)", 1, 1, 1)
                .due("would(0, 1)", 0, 0, 0).due("would(1, 0)", 0, 0, 0);
        String row = "the ROW: which (bits), how many of these hold yes";
        Run.of(15, row).with("n001;n003;n002;n000;n001", "1").due("would(0, 0)", 5, 31, 3)
                .due("would(1, 0)", 5, 31, 2).reads("rule()", "v=0", 0)
                .due("would(0, 0)", 2, 12, 0).reads("rule()", "f=1", 0).does("stills(2, 1)")
                .due("would(0, 0)", 1, 4, 0).due("would(1, 0)", 1, 4, 1);
        shut(15, "would CLOSE by a question now").reads("rule()", "1", 0)
                .due("would(0, 0)", 2, 160, 0).does("tides(1)").due("would(0, 0)", 3, 176, 0);
        Run.refused(15, "NONE: another TOPIC, WORDING.", NONE, "would(-1, 0)", "would(4, 0)",
                "would(0, -1)", "would(0, 10)", "would(" + MIN + ", 0)", "would(" + MAX + ", 0)",
                "would(0, " + MIN + ")", "would(0, " + MAX + ")");
    }

    // ---- promise 16

    private static void promise16() {
        String just = "The least WORDING by which just n (0 .. 8) would CLOSE of a TOPIC now: it";
        Run.of(16, just).with(EIGHT, "w=9").due("words(0, 8)", 9, 1, 255)
                .due("words(0, 0)", 0, 9, 0).due("words(3, 8)", 9, 1, 255);
        Run.of(16, just).with(EIGHT, "w=0").due("words(0, 8)", 0, 1, 255)
                .due("words(3, 0)", 1, 9, 0);
        Run.of(16, just).due("words(0, 0)", 0, 10, 0).due("words(3, 0)", 0, 10, 0);
        Run.of(16, just).with("n008;n000", "v").due("words(3, 1)", 0, 10, 1)
                .due("words(2, 0)", 0, 10, 0);
        String row = "the ROW: by how many WORDINGS just so many would, which by the least (bits)";
        Run.of(16, row).with("n000;n100;n300;n600", "w-f").due("words(0, 0)", 0, 1, 0)
                .due("words(0, 1)", 1, 1, 1).due("words(0, 2)", 2, 2, 3)
                .due("words(0, 3)", 4, 3, 7).due("words(0, 4)", 7, 3, 15);
        Run.of(16, row).with("n000;n100", "(f=0)*(w=2)+(f=1)*(w=1)").due("words(0, 1)", 1, 2, 2)
                .due("words(0, 0)", 0, 8, 0);
        Run.refused(16, "-2: by none", -2, "words(0, 8)", "words(0, 5)");
        Run.of(16, "-2: by none").with("n000", "1").due("words(0, 0)", -2).due("words(0, 2)", -2)
                .due("words(0, 1)", 0);
        Run.of(16, "-2: by none").due("words(0, 1)", -2).due("words(0, 8)", -2);
        Run.refused(16, "NONE: others.", NONE, "words(-1, 0)", "words(4, 0)", "words(0, -1)",
                "words(0, 9)", "words(4, 9)", "words(" + MIN + ", 0)", "words(" + MAX + ", 0)",
                "words(0, " + MIN + ")", "words(0, " + MAX + ")");
        shut(16, "would CLOSE of a TOPIC now").reads("rule()", "1", 0)
                .due("words(0, 2)", 0, 10, 160).due("words(0, 8)", -2);
    }

    // ---- promise 17

    private static void promise17() {
        String least = "10 times TOPIC and WORDING, the least; the ROW: how many such questions "
                + "there are (of 40)";
        Run.of(17, least).with("n000;n015", "v").due("honest()", 0, 40);
        Run.of(17, least).with("n008", "(v=0)+(w=9)").due("honest()", 39, 1);
        Run.of(17, least).with("n001", "(v=0)+(w=0)").due("honest()", 0, 1);
        Run.of(17, least).with("n006", "(v=0)+(w=4)").due("honest()", 14, 2);
        Run.of(17, least).due("honest()", 0, 40);
        String open = "just those who hold yes of its TOPIC, of those who are OPEN, would CLOSE";
        Run.of(17, open).with("n901;n000", "f").does("puts(0, 0)").reads("rule()", "v", 0)
                .due("honest()", 0, 40).reads("rule()", "0", 0).due("honest()", 0, 40)
                .does("tides(5)").due("honest()", 10, 30);
        Run.of(17, open).with("n001;n000", "1").due("honest()", -2).reads("rule()", "0", 0)
                .due("honest()", 10, 30).reads("rule()", "v=0", 0).due("honest()", -2);
        Run.of(17, "-2: there is none.").with("n000", "1").due("honest()", -2)
                .does("puts(0, 0)").due("honest()", 0, 40);
        Run.refused(17, "-2: there is none.", x -> x.busy().does("end(0)").text("c+1")
                .does("rule()", "tides(9)", "holds(2, 0)"), -2, "honest()");
    }

    // ---- promise 18

    private static void promise18() {
        String kind = "The KIND of which the most would CLOSE by a question now: of equal ones the "
                + "least";
        Run.of(18, kind).with("r000;p000;n000", "1").due("shyest(0, 0)", 0, 1, 1, 1)
                .reads("rule()", "k", 0).due("shyest(3, 9)", 1, 0, 1, 1)
                .reads("rule()", "k=2", 0).due("shyest(0, 0)", 2, 0, 0, 1)
                .reads("rule()", "k<2", 0).due("shyest(0, 0)", 0, 1, 1, 0)
                .reads("rule()", "(k=1)=0", 0).due("shyest(0, 0)", 0, 1, 0, 1)
                .reads("rule()", "0", 0).due("shyest(0, 0)", 0, 0, 0, 0);
        Run.of(18, kind).with("r000;n000;p000;r000;p000", "1").due("shyest(0, 0)", 1, 1, 2, 2);
        Run.of(18, kind).due("shyest(0, 0)", 0, 0, 0, 0);
        for (int i = 0; i < 27; i++) {
            int[] of = {i / 9, i / 3 % 3, i % 3};
            int most = Math.max(of[0], Math.max(of[1], of[2]));
            int want = of[0] == most ? 0 : of[1] == most ? 1 : 2;
            String lines = "r000;".repeat(of[2]) + "p000;".repeat(of[1]) + "n000;".repeat(of[0]);
            Run.of(18, kind).with(lines.isEmpty() ? "" : lines.substring(0, lines.length() - 1), "1")
                    .due("shyest(1, 1)", want, of[0], of[1], of[2]);
        }
        String row = "the ROW: how many of each KIND would (three)";
        Run.of(18, row).with(EIGHT, "1").due("shyest(0, 0)", 0, 8, 0, 0);
        Run.of(18, row).with(EIGHT.replace('n', 'r'), "1").due("shyest(0, 0)", 2, 0, 0, 8)
                .does("puts(0, 0)").due("shyest(0, 0)", 0, 0, 0, 0);
        Run.refused(18, "NONE: another TOPIC, WORDING.", NONE, "shyest(-1, 0)", "shyest(4, 0)",
                "shyest(0, -1)", "shyest(0, 10)", "shyest(" + MIN + ", 0)",
                "shyest(" + MAX + ", 0)", "shyest(0, " + MIN + ")", "shyest(0, " + MAX + ")");
    }

    // ---- promise 19

    private static void promise19() {
        String most = "10 times TOPIC and WORDING, of equal ones the least";
        Run.of(19, most).with("n008;n000", "v*(w=9)").due("loudest()", 39, 1, 0);
        Run.of(19, most).with("n001;n000", "v*(w=0)").due("loudest()", 0, 1, 0);
        Run.of(19, most).with("n006;n000", "v*(w>7)").due("loudest()", 18, 1, 0);
        Run.of(19, most).with(EIGHT, "1").due("loudest()", 0, 8, 8).reads("rule()", "0", 0)
                .due("loudest()", 0, 0, 0);
        Run.of(19, most).due("loudest()", 0, 0, 0);
        String row = "the ROW: how many, the fewest by any";
        Run.of(19, row).with("n000;n108;n308", "1-v*(w=9)").due("loudest()", 0, 3, 1);
        Run.of(19, row).with("n001;n001;n000", "1-v*(w=0)").due("loudest()", 1, 3, 1);
        shut(19, row).reads("rule()", "w", 0).due("loudest()", 1, 2, 0).does("tides(9)")
                .due("loudest()", 1, 8, 0);
    }

    // ---- promise 20

    private static void promise20() {
        String often = "if a question is asked n times (1 .. 20), a TIDE going by behind each: all "
                + "added up";
        Run.of(20, often).with("n000;n200;n900", "1").due("repeats(0, 0, 1)", 3, 3)
                .due("repeats(0, 0, 2)", 4, 3, 1).due("repeats(0, 0, 3)", 6, 3, 1, 2)
                .due("repeats(3, 9, 6)", 11, 3, 1, 2, 1, 2, 2);
        Run.of(20, often).with(EIGHT, "1").does("repeats(0, 0, 20)").due("count(9)", 12)
                .due("repeats(0, 0, 20)", 160).due("repeats(0, 0, 19)", 152)
                .due("repeats(0, 0, 13)", 104);
        Run.of(20, often).with("n000", "n=5").due("repeats(0, 0, 5)", 0, 0, 0, 0, 0, 0)
                .due("repeats(0, 0, 6)", 1, 0, 0, 0, 0, 0, 1).due("repeats(0, 0, 20)", 3);
        Run.of(20, often).with("n000", "p=0").due("repeats(0, 0, 3)", 1, 1, 0, 0);
        Run.of(20, often).with("n000;p000;r000;p000", "k=2").due("repeats(0, 0, 2)", 2, 1, 1)
                .reads("rule()", "c", 0).due("repeats(0, 0, 2)", 4, 2, 2)
                .reads("rule()", "k*c", 0).due("repeats(0, 0, 3)", 6, 2, 2, 2);
        Run.of(20, often).with("n000;n302", "(f=0)*(w=9)+v").does("puts(1, 0)", "tides(1)")
                .due("repeats(1, 0, 2)", 1, 0, 1).due("repeats(1, 9, 2)", 3, 1, 2)
                .due("repeats(0, 9, 2)", 2, 1, 1);
        String first = "the ROW: each time how many (the first 12 times alone)";
        Run x = Run.of(20, first).with("n000", "n=5");
        x.due("repeats(0, 0, 11)", 1, 0, 0, 0, 0, 0, 1, 0, 0, 0, 0, 0)
                .due("repeats(0, 0, 12)", 1, 0, 0, 0, 0, 0, 1, 0, 0, 0, 0, 0, 0)
                .due("repeats(0, 0, 13)", 2, 0, 0, 0, 0, 0, 1, 0, 0, 0, 0, 0, 0)
                .due("repeats(0, 0, 20)", 3, 0, 0, 0, 0, 0, 1, 0, 0, 0, 0, 0, 0);
        Run.of(20, first).due("repeats(0, 0, 2)", 0, 0, 0);
        Run.of(20, first).with("n008;n001", "v*(w=9)").due("repeats(3, 9, 2)", 2, 1, 1)
                .due("repeats(3, 8, 2)", 0, 0, 0).due("repeats(0, 9, 2)", 2, 1, 1)
                .due("repeats(2, 9, 2)", 0, 0, 0);
        Run.refused(20, "NONE: others.", NONE, "repeats(0, 0, 0)", "repeats(0, 0, 21)",
                "repeats(0, 0, -1)", "repeats(-1, 0, 1)", "repeats(4, 0, 1)", "repeats(0, -1, 1)",
                "repeats(0, 10, 1)", "repeats(0, 0, " + MIN + ")", "repeats(0, 0, " + MAX + ")",
                "repeats(" + MIN + ", 0, 1)", "repeats(0, " + MAX + ", 1)");
    }

    // ---- promises 21 to 24

    private static void promise21() {
        String open = "Which are OPEN in n TIDES (0 .. 99), if nothing else is done (bits); the "
                + "ROW: how many.";
        shut(21, open).due("later(0)", 160, 2).due("later(1)", 176, 3).due("later(2)", 248, 5)
                .due("later(3)", 252, 6).due("later(4)", 254, 7).due("later(5)", 255, 8)
                .due("later(98)", 255, 8).due("later(99)", 255, 8).due("count(2)", 0);
        Run.of(21, open).due("later(0)", 0, 0).due("later(99)", 0, 0);
        Run.refused(21, "NONE: another n.", NONE, "later(-1)", "later(100)", "later(" + MIN + ")",
                "later(" + MAX + ")");
    }

    private static void promise22() {
        String all = "In how many TIDES all are OPEN first, if nothing else is done: how many (0: "
                + "they are).";
        shut(22, all).due("calm()", 5).does("tides(1)").due("calm()", 4).does("tides(3)")
                .due("calm()", 1).does("tides(1)").due("calm()", 0).does("tides(60)")
                .due("calm()", 0);
        Run.of(22, all).due("calm()", 0).with(EIGHT, "1").due("calm()", 0).does("puts(0, 0)")
                .due("calm()", 1);
    }

    private static void promise23() {
        String behind = "Behind how many TIDES n (0 .. 8) or more OYSTERS are OPEN first, if "
                + "nothing else is done: how many; the ROW: which are then (bits).";
        shut(23, behind).due("opens(0)", 0, 160).due("opens(1)", 0, 160).due("opens(2)", 0, 160)
                .due("opens(3)", 1, 176).due("opens(4)", 2, 248).due("opens(5)", 2, 248)
                .due("opens(6)", 3, 252).due("opens(7)", 4, 254).due("opens(8)", 5, 255);
        Run.of(23, behind).due("opens(0)", 0, 0);
        Run.of(23, behind).with(EIGHT, "1").does("puts(0, 0)").due("opens(0)", 0, 0)
                .due("opens(1)", 1, 255).due("opens(8)", 1, 255);
        String none = "-2: there are not so many";
        Run.refused(23, none, -2, "opens(5)", "opens(8)");
        Run.of(23, none).due("opens(1)", -2).with("n000").due("opens(1)", 0, 1)
                .due("opens(2)", -2).with(EIGHT.substring(5, 34)).due("opens(7)", 0, 127)
                .due("opens(8)", -2);
        Run.refused(23, "NONE: another n.", NONE, "opens(-1)", "opens(9)", "opens(" + MIN + ")",
                "opens(" + MAX + ")");
    }

    private static void promise24() {
        String line = "OYSTERS by SHUT, those that open first ahead (of like ones by their "
                + "numbers; OPEN ones, too): how many; the ROW: they.";
        shut(24, line).due("line()", 8, 5, 7, 4, 3, 6, 2, 1, 0).does("tides(1)")
                .due("line()", 8, 4, 5, 7, 3, 6, 2, 1, 0).does("tides(60)")
                .due("line()", 8, 0, 1, 2, 3, 4, 5, 6, 7);
        Run.of(24, line).due("line()", 0).row().with("n900", "1").due("line()", 1, 0)
                .does("puts(0, 0)").due("line()", 1, 0);
    }

    // ---- promise 25

    private static void promise25() {
        String yes = "how many hold yes; the ROW: how many of those who are OPEN hold yes, how "
                + "many of each KIND do (three)";
        Run.of(25, yes).with("n001;p001;p015;r008;n000;n014", "f").due("yes(0)", 3, 3, 1, 2, 0)
                .due("yes(3)", 3, 3, 1, 1, 1).does("stills(1, 9)", "puts(0, 0)")
                .due("yes(0)", 3, 2, 1, 2, 0).due("yes(3)", 3, 3, 1, 1, 1);
        Run.of(25, yes).with("r015;r015;r015;r015;r015;r015;r015;r015", "1")
                .due("yes(3)", 8, 8, 0, 0, 8).does("puts(0, 0)").due("yes(0)", 8, 0, 0, 0, 8);
        Run.of(25, yes).with(EIGHT).due("yes(0)", 0, 0, 0, 0, 0);
        Run.of(25, yes).due("yes(0)", 0, 0, 0, 0, 0).due("yes(3)", 0, 0, 0, 0, 0);
        Run.refused(25, "NONE: another TOPIC.", NONE, "yes(-1)", "yes(4)", "yes(" + MIN + ")",
                "yes(" + MAX + ")");
    }

    // ---- promises 26 to 28

    private static void promise26() {
        String more = "of each TOPIC yes, if more hold yes than no: it";
        Run.of(26, more).with("n001;n001;n000;n000").due("whole()", 0, 2, 1);
        Run.of(26, more).with("n001;n001;n001;n000;n000").due("whole()", 1, 3, 0);
        Run.of(26, more).with("n001;n001;n000;n000;n000").due("whole()", 0, 3, 0);
        Run.of(26, more).with("n015;n015;n015;n015;n015;n000;n000;n000").due("whole()", 15, 5, 0);
        Run.of(26, more).with("n015;n015;n015;n015;n000;n000;n000;n000").due("whole()", 0, 4, 4);
        Run.of(26, more).with("n008").due("whole()", 8, 1, 0);
        String row = "the ROW: how many OYSTERS have just this VIEW, in how many TOPICS as many "
                + "hold yes as no";
        Run.of(26, row).with("n003;n005;n009").due("whole()", 1, 0, 0);
        Run.of(26, row).with("n003;n005").due("whole()", 1, 0, 2);
        Run.of(26, row).with("n011;n013").due("whole()", 9, 0, 2);
        Run.of(26, row).with(EIGHT).due("whole()", 0, 8, 0);
        Run.of(26, row).due("whole()", 0, 0, 4);
    }

    private static void promise27() {
        String least = "The VIEW (0 .. 15) that is the least far from all (in how many TOPICS it "
                + "is otherwise, added up): of equal ones the least: it";
        Run.of(27, least).with("n015").due("middle()", 15, 0, 0);
        Run.of(27, least).with("n000").due("middle()", 0, 0, 0);
        Run.of(27, least).with("n015;n000").due("middle()", 0, 4, 4);
        Run.of(27, least).with("n009;n010").due("middle()", 8, 2, 1);
        Run.of(27, least).with("n015;n015;n000").due("middle()", 15, 4, 4);
        Run.of(27, least).with("n001;n002;n004;n008").due("middle()", 0, 4, 1);
        Run.of(27, least).due("middle()", 0, 0, 0);
        String row = "the ROW: how far, how far the one is that is the farthest";
        Run.of(27, row).with("n000;n000;n000;n000;n000;n000;n000;n015").due("middle()", 0, 4, 4);
        Run.of(27, row).with("n015;n015;n015;n015;n000;n000;n000;n000").due("middle()", 0, 16, 4);
        Run.of(27, row).with("n003;n005;n009").due("middle()", 1, 3, 1);
    }

    private static void promise28() {
        String two = "The two OYSTERS whose VIEWS are the least far: how far; the ROW: the two, "
                + "the lesser first (of equal ones the least row).";
        Run.of(28, two).with("n000;n015").due("nearest()", 4, 0, 1);
        Run.of(28, two).with("n000;n000;n000").due("nearest()", 0, 0, 1);
        Run.of(28, two).with("n000;n003;n005;n006;n009;n010;n012;n012").due("nearest()", 0, 6, 7);
        Run.of(28, two).with("n000;n003;n005;n006;n009;n010;n012;n003").due("nearest()", 0, 1, 7);
        Run.of(28, two).with("n000;n003;n005;n006;n009;n010;n012;n015").due("nearest()", 2, 0, 1);
        Run.of(28, two).with("n003;n012;n012;n003").due("nearest()", 0, 0, 3);
        Run.of(28, two).with("n003;n012;n003;n012").due("nearest()", 0, 0, 2);
        Run.of(28, two).with("n000;n015;n007").due("nearest()", 1, 1, 2);
        String fewer = "-2: fewer than two.";
        Run.of(28, fewer).due("nearest()", -2).with("n000").due("nearest()", -2).with("n001")
                .due("nearest()", 1, 0, 1);
        Run.refused(28, fewer, x -> x.with("n000", "1").does("puts(0, 0)", "shyest(0, 0)"), -2,
                "nearest()");
        Run.refused(28, fewer, x -> x.does("shyest(0, 0)"), -2, "nearest()");
    }

    // ---- promises 29 to 31

    private static void promise29() {
        String sorts = "Sets of OYSTERS with one VIEW: how many; the ROW: the largest (bits: of as "
                + "large ones the one with the least OYSTER; nothing without).";
        Run.of(29, sorts).due("sorts()", 0).row();
        Run.of(29, sorts).does("later(0)").due("sorts()", 0).row();
        Run.of(29, sorts).with("n000").due("sorts()", 1, 1);
        Run.of(29, sorts).with("n015").due("sorts()", 1, 1);
        Run.of(29, sorts).with(EIGHT).due("sorts()", 1, 255);
        Run.of(29, sorts).with("n007;n006;n005;n004;n003;n002;n001;n000").due("sorts()", 8, 1);
        Run.of(29, sorts).with("n007;n000;n000;n007").due("sorts()", 2, 9);
        Run.of(29, sorts).with("n000;n007;n007;n000").due("sorts()", 2, 9);
        Run.of(29, sorts).with("n000;n007;n007;n001").due("sorts()", 3, 6);
        Run.of(29, sorts).with("n000;n000;n007;n007;n007").due("sorts()", 2, 28);
    }

    private static void promise30() {
        String fewest = "The fewest TOPICS by which, whatever two OYSTERS of other VIEWS there are, "
                + "some one tells them apart: how many; the ROW: which (bits: of as few the least).";
        Run.of(30, fewest).due("tells()", 0, 0);
        Run.of(30, fewest).with("n009").due("tells()", 0, 0);
        Run.of(30, fewest).with("n009;n009").due("tells()", 0, 0);
        Run.of(30, fewest).with("n000;n015").due("tells()", 1, 1);
        Run.of(30, fewest).with("n000;n014").due("tells()", 1, 2);
        Run.of(30, fewest).with("n000;n012").due("tells()", 1, 4);
        Run.of(30, fewest).with("n000;n008").due("tells()", 1, 8);
        Run.of(30, fewest).with("n000;n004;n008").due("tells()", 2, 12);
        Run.of(30, fewest).with("n000;n005;n010;n015").due("tells()", 2, 3);
        Run.of(30, fewest).with("n000;n007;n011;n013").due("tells()", 2, 6);
        Run.of(30, fewest).with("n000;n001;n002;n004;n008").due("tells()", 4, 15);
        Run.of(30, fewest).with("n000;n001;n002;n003;n004;n005;n006;n007").due("tells()", 3, 7);
        Run.of(30, fewest).with("n008;n009;n010;n011;n012;n013;n014;n000").due("tells()", 4, 15);
    }

    private static void promise31() {
        String fewest = "The fewest OYSTERS (one at least, an odd number) of whom of each TOPIC "
                + "more hold yes just if more of all do: how many; the ROW: they (bits: of as few "
                + "the least).";
        Run.of(31, fewest).with("n000").due("jury()", 1, 1);
        Run.of(31, fewest).with(EIGHT).due("jury()", 1, 1);
        Run.of(31, fewest).with("n001;n000").due("jury()", 1, 2);
        Run.of(31, fewest).with("n000;n001").due("jury()", 1, 1);
        Run.of(31, fewest).with("n003;n005;n009;n001").due("jury()", 1, 8);
        Run.of(31, fewest).with("n003;n005;n009").due("jury()", 3, 7);
        Run.of(31, fewest).with("n015;n001;n002;n004").due("jury()", 3, 14);
        Run.of(31, fewest).with("n011;n011;n005;n006;n013").due("jury()", 3, 25);
        Run.of(31, fewest).with("n000;n000;n000;n000;n000;n000;n000;n000").due("jury()", 1, 1);
        String none = "-2: by none (no OYSTERS, too).";
        Run.of(31, none).due("jury()", -2).with("n001;n002").due("jury()", -2).with("n000")
                .due("jury()", 1, 4);
        Run.refused(31, none, x -> x.does("shyest(0, 0)"), -2, "jury()");
        Run.refused(31, none, x -> x.with("n003;n005", "1").does("puts(0, 0)", "shyest(0, 0)"), -2,
                "jury()");
    }
}
