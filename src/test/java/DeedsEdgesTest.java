/** The edges that promises 8 to 14 and 50 to 53 name: each sentence in a test of its own. */
public final class DeedsEdgesTest extends Edges {
    public static void main(String[] args) {
        promise8();
        promise9();
        promise10();
        promise11();
        promise12();
        promise13();
        promise13Acts();
        promise13Refused();
        promise13Faults();
        promise14Kept();
        promise14Done();
        promise14Each();
        promise14Undone();
        promise14Forgotten();
        promise50();
        promise51();
        promise51Since();
        promise52();
        promise52Greatest();
        promise53();
        Run.end();
    }

    // ---- promise 8

    private static void promise8() {
        String asked = "A question is asked: how many CLOSE";
        Run.of(8, asked).with(EIGHT, "1").due("puts(0, 0)", 8).due("count(1)", 0)
                .due("puts(0, 0)", 0).due("count(3)", 2);
        Run.of(8, asked).with(EIGHT, "0").due("puts(3, 9)", 0).due("count(1)", 255)
                .due("count(3)", 1);
        Run.of(8, asked).due("puts(0, 0)", 0, 0, 0).due("count(3)", 1).due("count(8)", 1);
        Run.of(8, asked).with("n000;n008", "v*(w=9)").due("puts(3, 8)", 0).due("puts(2, 9)", 0)
                .due("puts(3, 9)", 1, 2, 1);
        Run.of(8, asked).with("n001;n000", "v*(w=0)").due("puts(0, 1)", 0).due("puts(1, 0)", 0)
                .due("puts(0, 0)", 1, 1, 2);
        String row = "the ROW: which (bits), which are OPEN then (bits)";
        Run.of(8, row).with(EIGHT, "1").due("puts(0, 0)", 8, 255, 0).due("puts(0, 0)", 0, 0, 0);
        Run.of(8, row).with(EIGHT, "0").due("puts(0, 0)", 0, 0, 255);
        Run.of(8, row).with("n900;n000;n100", "f>8").due("puts(0, 0)", 1, 1, 6)
                .reads("rule()", "f>0", 0).due("puts(0, 0)", 1, 4, 2);
        Run.refused(8, "NONE: another TOPIC, WORDING.", NONE, "puts(-1, 0)", "puts(4, 0)",
                "puts(0, -1)", "puts(0, 10)", "puts(4, 10)", "puts(" + MIN + ", 0)",
                "puts(" + MAX + ", 0)", "puts(0, " + MIN + ")", "puts(0, " + MAX + ")");
    }

    // ---- promise 9

    private static void promise9() {
        String n = "n TIDES (0 .. 60): how many are OPEN then";
        Run.of(9, n).with("n000;n900", "f").does("puts(0, 0)").due("tides(0)", 1)
                .due("count(2)", 0).each(3, 0, 5).due("tides(4)", 1).each(3, 0, 1)
                .due("tides(1)", 2).due("count(2)", 5).due("tides(60)", 2).due("count(2)", 65);
        Run.of(9, n).with(EIGHT).due("tides(60)", 8).due("tides(0)", 8).due("tides(59)", 8)
                .due("count(2)", 119);
        Run.of(9, n).due("tides(60)", 0, 0).due("count(2)", 60).due("count(8)", 1);
        String row = "the ROW: which came to be OPEN in these (bits)";
        Run.of(9, row).with("n000;n200;n300;n900;n000", "f").does("puts(0, 0)")
                .due("tides(0)", 2, 0).due("tides(1)", 2, 0).due("tides(1)", 4, 6)
                .due("tides(2)", 4, 0).due("tides(1)", 5, 8).due("tides(60)", 5, 0);
        Run.of(9, row).with(EIGHT, "1").does("puts(0, 0)").due("tides(60)", 8, 255);
        Run.refused(9, "Refused: another n.", NONE, "tides(-1)", "tides(61)", "tides(" + MIN + ")",
                "tides(" + MAX + ")");
    }

    // ---- promise 10

    private static void promise10() {
        String becomes = "FEAR of an OYSTER becomes v (0 .. 9; SHUT stays): 10 and what it was";
        Run.of(10, becomes).with(EIGHT).due("stills(0, 9)", 10).due("stills(0, 0)", 19)
                .due("stills(7, 1)", 10).due("stills(7, 9)", 11)
                .each(1, 0, 0, 0, 0, 0, 0, 0, 9).due("count(8)", 4);
        Run.of(10, becomes).with("n903", "1").does("puts(0, 0)").due("stills(0, 0)", 19)
                .each(3, 5).each(4, 1).each(2, 3).does("tides(4)").due("stills(0, 9)", 10)
                .each(3, 1);
        String so = "-2: it is so";
        Run.refused(10, so, -2, "stills(0, 5)", "stills(1, 9)", "stills(2, 6)", "stills(3, 4)");
        Run.of(10, so).with("n000").due("stills(0, 0)", -2).due("stills(0, 1)", 10)
                .due("stills(0, 1)", -2).due("stills(0, 0)", 11).due("count(8)", 2);
        Run.refused(10, "NONE: others.", NONE, "stills(0, -1)", "stills(0, 10)", "stills(-1, 0)",
                "stills(4, 0)", "stills(8, 0)", "stills(" + MIN + ", 0)", "stills(" + MAX + ", 0)",
                "stills(0, " + MIN + ")", "stills(0, " + MAX + ")", "stills(4, 10)");
        Run.of(10, "NONE: others.").due("stills(0, 0)", NONE).with(EIGHT)
                .due("stills(8, 1)", NONE).due("stills(-1, 1)", NONE).due("count(8)", 0);
    }

    // ---- promise 11

    private static void promise11() {
        String becomes = "VIEW of an OYSTER becomes v (0 .. 15): 20 and what it was";
        Run.of(11, becomes).with(EIGHT).due("holds(0, 15)", 20).due("holds(0, 0)", 35)
                .due("holds(7, 1)", 20).due("holds(7, 15)", 21)
                .each(2, 0, 0, 0, 0, 0, 0, 0, 15).due("count(8)", 4);
        Run.of(11, becomes).with("n903", "1").does("puts(0, 0)").due("holds(0, 12)", 23)
                .each(3, 5).each(4, 1).each(1, 9).each(2, 12);
        String so = "-2: it is so";
        Run.refused(11, so, -2, "holds(0, 3)", "holds(1, 6)", "holds(2, 7)", "holds(3, 1)");
        Run.of(11, so).with("n000;n015").due("holds(0, 0)", -2).due("holds(1, 15)", -2)
                .due("holds(1, 0)", 35).due("holds(1, 0)", -2).due("count(8)", 1);
        Run.refused(11, "NONE: others.", NONE, "holds(0, -1)", "holds(0, 16)", "holds(-1, 0)",
                "holds(4, 0)", "holds(8, 0)", "holds(" + MIN + ", 0)", "holds(" + MAX + ", 0)",
                "holds(0, " + MIN + ")", "holds(0, " + MAX + ")", "holds(4, 16)");
        Run.of(11, "NONE: others.").due("holds(0, 0)", NONE).with(EIGHT)
                .due("holds(8, 1)", NONE).due("holds(-1, 1)", NONE).due("count(8)", 0);
    }

    // ---- promise 12

    private static void promise12() {
        String knife = "An OYSTER is opened by a knife (SHUT 0, PEARL 0 then): PEARL that it had";
        Run.of(12, knife).with("n903;n903", "1").does("puts(0, 0)").due("knife(1)", 1)
                .each(3, 5, 0).each(4, 1, 0).each(1, 9, 9).each(2, 3, 3).does("tides(4)")
                .due("knife(0)", 1).each(3, 0, 0).each(4, 0, 0).due("count(1)", 3);
        Run.of(12, knife).with(EIGHT, "1").does("puts(0, 0)", "tides(1)", "puts(0, 0)")
                .due("knife(7)", 2).due("knife(0)", 2).due("count(1)", 129).due("count(4)", 12);
        String open = "-2: it is OPEN";
        Run.of(12, open).with("n000", "1").due("knife(0)", -2).does("puts(0, 0)", "tides(1)")
                .due("knife(0)", -2).each(4, 1).due("count(8)", 2);
        Run.refused(12, open, x -> x.busy().does("tides(9)"), -2, "knife(0)", "knife(3)");
        String none = "NONE: none such.";
        Run.refused(12, none, NONE, "knife(-1)", "knife(4)", "knife(8)", "knife(" + MIN + ")",
                "knife(" + MAX + ")");
        Run.of(12, none).due("knife(0)", NONE).with(EIGHT, "1").does("puts(0, 0)")
                .due("knife(8)", NONE).due("knife(-1)", NONE).due("count(1)", 0);
    }

    // ---- promise 13

    private static void promise13() {
        String empty = "(an empty one: nothing)";
        Run.of(13, empty).reads("season()", "", 0).row(0, 0).due("count(8)", 0);
        Run.of(13, empty).with(BEDS).does("puts(0, 0)").reads("season()", "", 0).row(0, 1)
                .due("count(8)", 1);
        Run.onlyTells(13, empty, x -> x.busy().does("end(0)"), "season()");
        String many = "how many were done";
        Run.of(13, many).reads("season()", "n1", 1).row(0, 0).reads("season()", "n1".repeat(30), 30)
                .row(0, 0).due("count(2)", 31);
        String row = "the ROW: 1 if one was refused, else 0; how many are OPEN then";
        Run.of(13, row).with(EIGHT, "1").reads("season()", "q00", 1).row(0, 0)
                .reads("season()", "n1", 1).row(0, 8).reads("season()", "q00k0", 2).row(0, 1)
                .reads("season()", "k0", 0).row(1, 1).reads("season()", "k7k0", 1).row(1, 2)
                .reads("season()", "n0k8", 1).row(1, 2);
    }

    private static void promise13Acts() {
        String n = "n and a digit (tides())";
        Run.of(13, n).reads("season()", "n0", 1).due("count(2)", 0).due("count(8)", 1)
                .reads("season()", "n9", 1).due("count(2)", 9).due("count(8)", 2)
                .reads("season()", "n/", -2).reads("season()", "n:", -2).due("count(2)", 9);
        String q = "q, a digit 0 .. 3 and a digit (puts())";
        Run.of(13, q).with("n008;n001", "v*(w=9)").reads("season()", "q30", 1).due("count(3)", 1)
                .each(3, 0, 0).reads("season()", "q09q39", 2).each(3, 1, 1).row(0, 0)
                .due("count(3)", 3).reads("season()", "q00", 1).reads("season()", "q4", -2)
                .reads("season()", "q9", -2).reads("season()", "q/0", -2)
                .reads("season()", "q40", -2).reads("season()", "q3/", -3)
                .reads("season()", "q3:", -3).reads("season()", "q0f", -3).due("count(3)", 4);
        String f = "f and two digits (stills())";
        Run.of(13, f).with(EIGHT).reads("season()", "f09f79", 2).each(1, 9, 0, 0, 0, 0, 0, 0, 9)
                .reads("season()", "f00", 1).reads("season()", "f00", 0).row(1, 8)
                .reads("season()", "f80", 0).row(1, 8).reads("season()", "f99", 0).row(1, 8)
                .reads("season()", "f/0", -2).reads("season()", "f:0", -2)
                .reads("season()", "f0/", -3).reads("season()", "f0:", -3);
        String v = "v, a digit and two digits (holds())";
        Run.of(13, v).with(EIGHT).reads("season()", "v015v709v710", 3)
                .each(2, 15, 0, 0, 0, 0, 0, 0, 10).reads("season()", "v000", 1)
                .reads("season()", "v000", 0).row(1, 8).reads("season()", "v016", 0).row(1, 8)
                .reads("season()", "v099", 0).row(1, 8).reads("season()", "v800", 0).row(1, 8)
                .reads("season()", "v/00", -2).reads("season()", "v0/0", -3)
                .reads("season()", "v0:0", -3).reads("season()", "v00/", -4)
                .reads("season()", "v00:", -4).due("count(8)", 2);
        String k = "k and a digit (knife())";
        Run.of(13, k).with(EIGHT, "1").does("puts(0, 0)").reads("season()", "k0k7", 2).row(0, 2)
                .reads("season()", "k8", 0).row(1, 2).reads("season()", "k9", 0).row(1, 2)
                .reads("season()", "k0", 0).row(1, 2).reads("season()", "k/", -2)
                .reads("season()", "k:", -2).due("count(4)", 6);
        for (char letter : "mopregujlwNQFVK09;( \0\356".toCharArray()) {
            Run.of(13, "signs one behind another").reads("season()", letter + "1", -1)
                    .reads("season()", "n1" + letter + "1", -3).due("count(2)", 0);
        }
        Run.of(13, "signs one behind another").reads("season()", "n1;n1", -3)
                .reads("season()", "n1n1", 2);
    }

    private static void promise13Refused() {
        String till = "they are done one by one, till one is refused (it answers below 0)";
        Run.of(13, till).with(BEDS).reads("season()", "f05n9", 0).row(1, 4).due("count(2)", 0)
                .due("count(8)", 0);
        Run.of(13, till).with(BEDS).reads("season()", "n1n2k0n4n5", 2).row(1, 4)
                .due("count(2)", 3).due("count(8)", 1);
        Run.of(13, till).with(BEDS).reads("season()", "n1f49", 1).row(1, 4).due("count(2)", 1);
        Run.of(13, till).with(BEDS).reads("season()", "q00k0k0q00", 2).row(1, 2)
                .due("count(3)", 1);
        Run.of(13, till).with(BEDS).reads("season()", "v003n1", 0).row(1, 4)
                .reads("season()", "v016n1", 0).row(1, 4).reads("season()", "v403n1", 0).row(1, 4)
                .reads("season()", "k4n1", 0).row(1, 4).reads("season()", "f40n1", 0).row(1, 4)
                .due("count(2)", 0).due("count(8)", 0);
        Run.onlyTells(13, till, x -> x.busy().does("end(0)", "tides(9)"), "season()");
        Run.alike(13, till, x -> x.busy().does("end(0)"),
                x -> x.reads("season()", "f05n9", 0).does("later(0)"), x -> x.does("later(0)"));
        // Of an act that tells a row and one that is refused, the ROW is the season's.
        Run.of(13, till).with(BEDS).reads("season()", "q00", 1).row(0, 1)
                .reads("season()", "n1k9", 1).row(1, 2);
    }

    private static void fault(String quote, String signs, int at) {
        Run.of(13, quote).with(BEDS).does("later(0)").reads("season()", signs, -1 - at).row(4)
                .due("count(2)", 0).due("count(3)", 0).due("count(8)", 0);
    }

    private static void promise13Faults() {
        String stand = "-1 - p: the sign at p can't stand there";
        String[] wrong = {"x", "nx", "qx", "q0x", "fx", "f0x", "vx", "v0x", "v00x", "kx", "n1x",
            "n1nx", "q00x", "f00x", "v000x", "k0x", "nn", "n11", "q000", "v0000", "n1q4"};
        int[] at = {0, 1, 1, 2, 1, 2, 1, 2, 3, 1, 2, 3, 3, 3, 4, 2, 1, 2, 3, 4, 3};
        for (int i = 0; i < wrong.length; i++) {
            fault(stand, wrong[i], at[i]);
        }
        fault(stand, "n1".repeat(29) + "nx", 59);
        fault(stand, "n1".repeat(29) + "x1", 58);
        String end = "its end, if it ends too early";
        for (String early : new String[] {"n", "q", "q0", "f", "f0", "v", "v0", "v00", "k"}) {
            fault(end, early, early.length());
            fault(end, "n1" + early, 2 + early.length());
            fault(end, "v000" + early, 4 + early.length());
        }
        fault(end, "n1".repeat(29) + "f0", 60);
        fault(end, "n1".repeat(29) + "n", 59);
        String more = "60, if it has more and the first 60 could go on or end";
        fault(more, "n1".repeat(30) + "n", 60);
        fault(more, "n1".repeat(30) + "n1", 60);
        fault(more, "n1".repeat(30) + "x", 60);
        fault(more, "n1".repeat(40), 60);
        fault(more, "n1".repeat(29) + "f0" + "1", 60);
        fault(more, "n1".repeat(29) + "f0" + "x", 60);
        fault(more, "n1".repeat(29) + "nx" + "n1", 59);
        fault(more, "x1" + "n1".repeat(30), 0);
        fault(more, "n1".repeat(28) + "v000" + "1", 60);
        Run.of(13, more).reads("season()", "n1".repeat(30), 30)
                .reads("season()", "q39".repeat(20), 20).reads("season()", "n1".repeat(29) + "n", -60)
                .due("count(2)", 30).due("count(3)", 20);
        Run.refusedText(13, "nothing is done then", "season()", "n1q00x", -6);
        Run.refusedText(13, "nothing is done then", "season()", "n1q0", -5);
        Run.refusedText(13, "nothing is done then", "season()", "n1".repeat(31), -61);
    }

    // ---- promise 14

    private static void promise14Kept() {
        String kept = "of 15 that are kept, the latest ones";
        Run x = Run.of(14, kept);
        for (int i = 1; i <= 15; i++) {
            x.does("tides(1)").due("count(8)", i);
        }
        x.does("tides(1)").due("count(8)", 15).does("tides(1)").due("count(8)", 15);
        for (int i = 14; i >= 0; i--) {
            x.due("undo()", i).due("count(2)", 2 + i).due("count(8)", i);
        }
        x.due("undo()", NONE).due("count(2)", 2);
        Run y = Run.of(14, kept).doesTimes(15, "tides(1)").doesTimes(5, "undo()")
                .due("count(8)", 10).due("count(2)", 10).doesTimes(7, "tides(2)")
                .due("count(8)", 15).due("count(2)", 24);
        for (int i = 14; i >= 8; i--) {
            y.due("undo()", i).due("count(2)", 10 + 2 * (i - 8));
        }
        for (int i = 7; i >= 0; i--) {
            y.due("undo()", i).due("count(2)", i + 2);
        }
        y.due("undo()", NONE).does("tides(3)").due("undo()", 0).due("count(2)", 2);
        Run z = Run.of(14, kept).doesTimes(40, "tides(1)").doesTimes(14, "undo()")
                .due("undo()", 0).due("count(2)", 25).due("undo()", NONE).due("count(2)", 25);
        z.does("tides(1)").due("count(8)", 1);
    }

    private static void promise14Done() {
        String done = "such as were done";
        Run x = Run.of(14, done).with(BEDS);
        x.does("puts(4, 0)", "puts(0, 10)", "tides(-1)", "tides(61)", "stills(0, 5)",
                "stills(0, 10)", "stills(4, 0)", "holds(0, 3)", "holds(0, 16)", "holds(4, 0)",
                "knife(0)", "knife(4)").due("count(8)", 0).reads("season()", "n", -2)
                .reads("season()", "k0", 0).reads("season()", "", 0).due("count(8)", 0)
                .due("undo()", NONE);
        Run.of(14, done).with(BEDS).does("puts(0, 0)").due("count(8)", 1).does("tides(0)")
                .due("count(8)", 2).does("stills(0, 0)").due("count(8)", 3).does("holds(0, 0)")
                .due("count(8)", 4).does("knife(2)").due("count(8)", 5)
                .reads("season()", "n0", 1).due("count(8)", 6);
        Run.of(14, done).with(BEDS).does("sheet(2, 4, 1, 1)", "rule()", "seen(0, 0, 0)",
                "heard(0, 0)", "keep(0)", "would(0, 0)", "years(1, 60)", "repeats(0, 0, 9)",
                "sign(0)", "end(0)").due("count(8)", 0);
        String season = "season() of which one act was done, as one";
        Run.of(14, season).with(BEDS).reads("season()", "q00n1k0f12v115", 5).due("count(8)", 1)
                .reads("season()", "n3k0", 1).row(1, 4).due("count(8)", 2)
                .reads("season()", "k0n1", 0).due("count(8)", 2)
                .due("undo()", 1).due("count(2)", 1).due("undo()", 0).due("count(2)", 0)
                .due("count(3)", 0).each(1, 5, 9, 1, 4).each(2, 3, 2, 7, 1).each(3, 0, 0, 0, 0)
                .each(4, 0, 0, 0, 0).due("undo()", NONE);
    }

    /** OYSTERS that are told apart in all they have, and time that went by. */
    private static Run ahead(String quote) {
        return aheadOf(Run.of(14, quote).with(BEDS).does("puts(0, 0)", "tides(1)",
                "sheet(2, 4, 3, 1)"));
    }

    private static Run aheadOf(Run x) {
        return x.each(0, 0, 1, 2, 0).each(1, 3, 4, 5, 6).each(2, 3, 2, 7, 1).each(3, 2, 0, 0, 2)
                .each(4, 1, 0, 1, 1).due("count(2)", 1).due("count(3)", 1);
    }

    private static void promise14Each() {
        String latest = "The latest puts(), tides(), stills(), holds(), knife() or season()";
        for (String act : new String[] {"puts(1, 9)", "puts(3, 0)", "tides(3)", "tides(0)",
            "stills(0, 0)", "stills(3, 9)", "holds(0, 0)", "holds(3, 15)", "knife(0)",
            "knife(3)"}) {
            Run x = ahead(latest).does(act).due("count(8)", 3).due("undo()", 2);
            aheadOf(x).due("undo()", 1).each(3, 3, 0, 1, 3).due("count(2)", 0)
                    .each(1, 5, 9, 1, 4);
        }
        Run y = ahead(latest).reads("season()", "f30v000k3q19n9", 5).due("count(8)", 3)
                .due("undo()", 2);
        aheadOf(y).due("undo()", 1);
        Run z = ahead(latest).does("holds(0, 0)", "stills(0, 0)", "knife(0)", "tides(9)",
                "puts(1, 9)").due("count(8)", 7).due("undo()", 6).each(3, 0, 0, 0, 0)
                .due("undo()", 5).each(3, 0, 0, 0, 2).due("undo()", 4).each(3, 2, 0, 0, 2)
                .each(4, 1, 0, 1, 1).due("undo()", 3).each(1, 3, 4, 5, 6).due("undo()", 2);
        aheadOf(z);
    }

    private static void promise14Undone() {
        String as = "(all of OYSTERS but KIND, TIDE, ASKED are as ahead of it)";
        Run.of(14, as).with(BEDS, "1").does("puts(0, 0)").due("undo()", 0).each(3, 0, 0, 0, 0)
                .each(4, 0, 0, 0, 0).due("count(3)", 0).due("count(1)", 15);
        Run.of(14, as).with(BEDS, "1").does("puts(0, 0)", "tides(3)").each(3, 0, 2, 0, 0)
                .due("undo()", 1).each(3, 3, 5, 1, 3).due("count(2)", 0).due("count(3)", 1);
        Run.of(14, as).with(BEDS, "1").does("puts(0, 0)", "knife(1)").each(4, 1, 0, 1, 1)
                .due("undo()", 1).each(4, 1, 1, 1, 1).each(3, 3, 5, 1, 3);
        Run.of(14, as).with(BEDS).does("stills(3, 9)").due("undo()", 0).each(1, 5, 9, 1, 4)
                .does("holds(3, 15)").due("undo()", 0).each(2, 3, 2, 7, 1);
        Run.of(14, as).with(BEDS).does("tides(2)", "sheet(2, 4, 7, 0)", "stills(0, 1)")
                .due("undo()", 1).each(1, 7, 7, 7, 7).due("undo()", 0).each(1, 5, 9, 1, 4)
                .each(0, 0, 1, 2, 0);
        Run.of(14, as).with(BEDS).does("tides(1)", "keep(1)", "seen(0, 0, 0)", "heard(0, 0)")
                .text("n1").does("tides(1)", "shyest(0, 0)").due("undo()", 1).row(2, 0, 1)
                .due("count(6)", 1).due("count(7)", 1).due("count(10)", 2).due("season()", 1)
                .due("count(2)", 2).due("again(1)", 1).due("count(2)", 1);
        Run.of(14, as).with(BEDS).does("tides(1)").reads("rule()", "0", 0).due("undo()", 0)
                .due("would(0, 0)", 0);
        String left = "how many are left that can be";
        Run.of(14, left).does("tides(1)", "tides(1)", "tides(1)").due("undo()", 2)
                .due("undo()", 1).due("undo()", 0).due("undo()", NONE).due("undo()", NONE);
        String none = "Refused: none.";
        Run.of(14, none).due("undo()", NONE).with(BEDS).due("undo()", NONE).each(1, 5, 9, 1, 4);
        Run.refused(14, none, x -> x.busy().doesTimes(6, "undo()"), NONE, "undo()");
    }

    private static void promise14Forgotten() {
        String forget = "(oysters() and again() forget them, if they are not refused; an empty "
                + "oysters() does not.)";
        Run.of(14, forget).with(BEDS).does("tides(1)", "tides(1)").reads("oysters()", "n000", 1)
                .due("count(8)", 0).due("undo()", NONE).due("count(2)", 2);
        Run.of(14, forget).with(BEDS).does("tides(1)").reads("oysters()", "n00", -4)
                .due("count(8)", 1).reads("oysters()", "n000;n016", -9).due("count(8)", 1)
                .reads("oysters()", EIGHT, -21).due("count(8)", 1).due("undo()", 0)
                .due("count(2)", 0);
        Run.of(14, forget).with(BEDS).does("tides(1)").reads("oysters()", "", 0)
                .due("count(8)", 1).due("undo()", 0).due("count(2)", 0);
        Run.of(14, forget).with(BEDS).does("keep(0)", "tides(1)", "tides(1)").due("again(0)", 1)
                .due("count(8)", 0).due("undo()", NONE).due("count(2)", 0);
        Run.of(14, forget).with(BEDS).does("keep(0)", "tides(1)").due("again(1)", 0)
                .due("count(8)", 1).due("again(3)", 0).due("again(-1)", 0).due("count(8)", 1)
                .reads("oysters()", "n000", 1).does("tides(1)").due("again(0)", 0)
                .due("count(8)", 1).due("undo()", 0).due("count(2)", 1);
    }

    // ---- promises 50 and 51

    private static void promise50() {
        String under = "is kept under a number 0 .. 2: true";
        Run.of(50, under).with("n000").due("keep(0)", 1).does("tides(1)").due("keep(1)", 1)
                .does("tides(1)").due("keep(2)", 1).does("tides(1)").due("again(0)", 1)
                .due("count(2)", 0).due("again(2)", 1).due("count(2)", 2).due("again(1)", 1)
                .due("count(2)", 1);
        Run.of(50, under).due("keep(2)", 1).due("again(2)", 1).due("again(0)", 0);
        Run.of(50, under).does("keep(0)", "tides(5)").due("keep(0)", 1).does("tides(1)")
                .due("again(0)", 1).due("count(2)", 5);
        String brings = "What undo() brings back";
        Run.of(50, brings).with(BEDS, "1").does("puts(0, 0)", "tides(1)", "keep(0)", "tides(9)",
                "puts(1, 1)", "knife(0)", "stills(0, 0)", "stills(3, 9)", "holds(0, 0)",
                "holds(3, 15)").due("again(0)", 1).each(0, 0, 1, 2, 0).each(1, 5, 9, 1, 4)
                .each(2, 3, 2, 7, 1).each(3, 2, 4, 0, 2).each(4, 1, 1, 1, 1).due("count(2)", 1)
                .due("count(3)", 1);
        Run.of(50, brings).with(BEDS, "0").does("seen(0, 0, 0)", "keep(0)", "seen(0, 0, 0)",
                "heard(0, 0)", "shyest(0, 0)").reads("rule()", "1", 0).text("n1")
                .due("again(0)", 1).row(0, 0, 0).due("count(6)", 2).due("count(7)", 1)
                .due("would(0, 0)", 4).due("season()", 1).due("count(2)", 1);
        Run.of(50, brings).with(BEDS).does("sheet(2, 4, 2, 0)", "keep(0)", "sheet(2, 4, 3, 0)")
                .due("again(0)", 1).each(1, 2, 2, 2, 2);
        Run.refused(50, "Refused: others.", 0, "keep(-1)", "keep(3)", "keep(" + MIN + ")",
                "keep(" + MAX + ")");
        Run.alike(50, under, Run::busy, x -> x.due("keep(1)", 1).does("tides(1)", "undo()"),
                x -> x.does("keep(1)", "keep(1)", "tides(1)", "undo()"));
    }

    private static void promise51() {
        String as = "It is as it was kept under a number.";
        Run.of(51, as).with(BEDS, "1").does("keep(1)", "puts(0, 0)").due("again(1)", 1)
                .each(3, 0, 0, 0, 0).does("puts(0, 0)", "tides(1)").due("again(1)", 1)
                .each(3, 0, 0, 0, 0).due("count(2)", 0).due("count(3)", 0);
        String none = "Refused: nothing kept";
        Run.of(51, none).due("again(0)", 0).due("again(1)", 0).due("again(2)", 0)
                .due("again(-1)", 0).due("again(3)", 0).does("keep(1)").due("again(0)", 0)
                .due("again(1)", 1).due("again(2)", 0);
        Run.refused(51, none, 0, "again(1)", "again(-1)", "again(3)", "again(" + MIN + ")",
                "again(" + MAX + ")");
    }

    private static void promise51Since() {
        String since = "OYSTERS came since.";
        Run.refused(51, since, DeedsEdgesTest::grown, 0, "again(0)", "again(2)");
        Run.of(51, since).does("keep(0)").with("n000").due("again(0)", 0).does("keep(0)")
                .due("again(0)", 1).due("count(0)", 1);
        Run.of(51, since).with(BEDS).does("keep(0)", "keep(1)").reads("oysters()", "n00", -4)
                .due("again(0)", 1).reads("oysters()", "", 0).due("again(1)", 1)
                .reads("oysters()", "n000;n000;n000;n000", 4).due("again(0)", 0)
                .due("again(1)", 0).does("keep(1)", "tides(1)").due("again(0)", 0)
                .due("again(1)", 1).due("count(2)", 0).due("count(0)", 8);
    }

    private static Run grown(Run x) {
        return x.busy().does("end(0)").text("n000").does("oysters()", "tides(1)").text("n1");
    }

    // ---- promises 52 and 53

    private static void promise52() {
        String what = "What 0: OYSTERS, 1: which are OPEN (bits), 2: TIDE, 3: ASKED, 4: PEARLS of "
                + "all, 5: FEAR of all, 6: what was seen, 7: what was heard, 8: what can be "
                + "undone, 9: numbers of the ROW, 10: signs of THE TEXT.";
        Run x = Run.of(52, what).with(BEDS).does("puts(0, 0)", "tides(1)", "tides(1)",
                "seen(0, 0, 1)", "seen(0, 0, 1)", "heard(0, 0)", "line()").text("abcde");
        long[] counts = {4, 6, 2, 1, 3, 19, 2, 1, 3, 4, 5};
        for (int i = 0; i <= 10; i++) {
            x.due("count(" + i + ")", counts[i]);
        }
        String other = "-100 for another what.";
        Run.of(52, other).due("count(-1)", -100).due("count(11)", -100)
                .due("count(" + MIN + ")", -100).due("count(" + MAX + ")", -100)
                .due("count(0)", 0).due("count(10)", 0).with(BEDS).due("count(-1)", -100)
                .due("count(11)", -100);
    }

    private static void promise52Greatest() {
        String what = "5: FEAR of all, 6: what was seen, 7: what was heard, 8: what can be undone, "
                + "9: numbers of the ROW, 10: signs of THE TEXT";
        Run x = Run.of(52, what).with("n915;".repeat(7) + "n915", "1");
        x.due("count(0)", 8).due("count(1)", 255).due("count(5)", 72).doesTimes(16, "puts(0, 0)")
                .due("count(8)", 15).due("count(3)", 16).due("count(1)", 0).due("count(4)", 8)
                .doesTimes(11, "seen(0, 0, 0)").due("count(6)", 10).doesTimes(13, "heard(0, 0)")
                .due("count(7)", 12).does("repeats(0, 0, 20)").due("count(9)", 12)
                .text("x".repeat(80)).due("count(10)", 80).does("sign(0)").due("count(10)", 80);
    }

    private static void promise53() {
        String number = "Number i of the ROW.";
        Run.of(53, number).with(BEDS).does("shyest(0, 0)").due("row(0)", 2).due("row(1)", 0)
                .due("row(2)", 1).due("row(3)", THROWS).does("later(0)").due("row(0)", 4)
                .due("row(1)", THROWS).due("row(2)", THROWS);
        String none = "NoSuchElementException: none such.";
        Run.of(53, none).due("row(0)", THROWS).due("row(-1)", THROWS).due("row(1)", THROWS)
                .does("later(0)").due("row(0)", 0).due("row(1)", THROWS).due("row(-1)", THROWS)
                .due("row(" + MIN + ")", THROWS).due("row(" + MAX + ")", THROWS)
                .does("repeats(0, 0, 20)").due("row(11)", 0).due("row(12)", THROWS)
                .does("line()").due("row(0)", THROWS);
    }
}
