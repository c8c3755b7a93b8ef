/** Promises 1 to 14 and 50 to 53: texts, oysters, what is done, undone and kept. */
public final class BedsPromisesTest {
    private static final String BEDS = "n503;p902;r107;n401";
    private static final String EIGHT = "n000;n000;n000;n000;n000;n000;n000;n000";
    private static final Checks CHECKS = new Checks();

    public static void main(String[] args) {
        promise1();
        promise2();
        promise3();
        promise4();
        promise4Faults();
        promise5Faults();
        promise5Values();
        promise6();
        promise7();
        promise8();
        promise9();
        promise10();
        promise11();
        promise12();
        promise13();
        promise13Faults();
        promise14();
        promise14Forgotten();
        promise50And51();
        promise52();
        promise53();
        CHECKS.end();
    }

    private static void due(String call, long got, long want) {
        CHECKS.due(call, got, want);
    }

    private static long oyster(OysterBeds x, int oyster, int what) {
        return Checks.answerOf(() -> x.oyster(oyster, what));
    }

    private static void state(String call, OysterBeds x, int what, long... want) {
        due(call + ": oysters", x.count(0), want.length);
        for (int i = 0; i < want.length; i++) {
            due(call + ": oyster(" + i + ", " + what + ")", oyster(x, i, what), want[i]);
        }
    }

    private static String times(int n, String signs) {
        return signs.repeat(n);
    }

    private static void promise1() {
        OysterBeds x = new OysterBeds();
        for (int what = 0; what <= 10; what++) {
            due("1: count(" + what + ")", x.count(what), 0);
        }
        CHECKS.row("1: new", x);
        due("1: oyster(0, 0)", oyster(x, 0, 0), Checks.THROWS);
        due("1: NONE", OysterBeds.NONE, -1);
    }

    private static void promise2() {
        OysterBeds x = new OysterBeds();
        due("2: sign(n503)", x.sign(0x6E353033), 4);
        due("2: highest byte first", x.oysters(), 1);
        state("2", x, 1, 5);
        for (int i = 1; i <= 20; i++) {
            due("2: sign " + i, x.sign(-1), 4 * i);
        }
        due("2: sign beyond 80", x.sign(0), -1);
        due("2: 80 stay", x.count(10), 80);
        CHECKS.due("2: end(77)", x.end(77), true);
        due("2: sign beyond 80, of 77", x.sign(0), -1);
        due("2: 77 stay", x.count(10), 77);
        CHECKS.due("2: end(76)", x.end(76), true);
        due("2: sign up to 80", x.sign(0), 80);
    }

    private static void promise3() {
        OysterBeds x = new OysterBeds();
        CHECKS.due("3: end(0) of none", x.end(0), true);
        CHECKS.due("3: end(1) of none", x.end(1), false);
        x.sign(0x6E353033);
        x.sign(0x70707070);
        CHECKS.due("3: end(9)", x.end(9), false);
        CHECKS.due("3: end(-1)", x.end(-1), false);
        CHECKS.due("3: end(min)", x.end(Integer.MIN_VALUE), false);
        due("3: 8 stay", x.count(10), 8);
        CHECKS.due("3: end(8)", x.end(8), true);
        CHECKS.due("3: end(4)", x.end(4), true);
        due("3: 4 left", x.count(10), 4);
        due("3: first ones stay", x.oysters(), 1);
    }

    private static void promise4() {
        OysterBeds x = new OysterBeds();
        due("4: none", Checks.oysters(x, ""), 0);
        due("4: four", Checks.oysters(x, BEDS), 4);
        due("4: text empties", x.count(10), 0);
        state("4", x, 0, 0, 1, 2, 0);
        state("4", x, 1, 5, 9, 1, 4);
        state("4", x, 2, 3, 2, 7, 1);
        x.puts(0, 0);
        due("4: two more", Checks.oysters(x, "r915;p000"), 2);
        state("4: two more", x, 0, 0, 1, 2, 0, 2, 1);
        state("4: two more", x, 2, 3, 2, 7, 1, 15, 0);
        state("4: shut stays", x, 3, 3, 0, 1, 3, 0, 0);
        state("4: pearls stay", x, 4, 1, 0, 1, 1, 0, 0);
        due("4: no room for the third", Checks.oysters(x, "n000;n000;n000"), -11);
        due("4: nothing of it came", x.count(0), 6);
        due("4: two for the room", Checks.oysters(x, "n000;n000"), 2);
        due("4: no room at all", Checks.oysters(x, "n000"), -1);
        due("4: none, when full", Checks.oysters(x, ""), 0);
        due("4: eight at once", Checks.oysters(new OysterBeds(), EIGHT), 8);
    }

    private static void promise4Faults() {
        String[] texts = {"n", "n5", "n50", "n503;", "n503;x000", "N503", "n503n", "n516", "n520",
            "n52", "n599", "n5x3", "nx03", "n503 ", "v503", ";", "n503;;", "n50a", "n503;p",
            "n503;p216", EIGHT + ";", EIGHT + "n", EIGHT + ";n000", "n503;p902;r1x7",
            EIGHT.substring(0, 38), EIGHT.substring(0, 35), "\u006e\u00b200"};
        int[] faults = {1, 2, 3, 5, 5, 0, 4, 3, 3, 3, 3, 2, 1, 4, 0, 0, 5, 3, 6, 8, 39, 39, 39, 12,
            38, 35, 1};
        for (int i = 0; i < texts.length; i++) {
            OysterBeds x = Checks.with("p315");
            due("4: oysters " + texts[i], Checks.oysters(new OysterBeds(), texts[i]),
                    -1 - faults[i]);
            Checks.oysters(x, texts[i]);
            due("4: nothing of " + texts[i], x.count(0), 1);
            due("4: text empties of " + texts[i], x.count(10), 0);
        }
        due("4: no room comes ahead of 39", Checks.oysters(Checks.with("n000"), EIGHT + ";n"), -36);
    }

    private static void promise5Faults() {
        String[] texts = {"f<<1", "1<2<3", "1<2=3", "1234", "(((((f)))))", "f)", "(f", "-", "f-",
            "*f", "f f", "fv", "2f", "f2", "()", "F", "(", "f*", "f+*2", "~f", "f~f", "x", "+f",
            "(1<2<3)", "f)f", ";", "1<", "(f))", "12(3)", "(3)12", "(3)f", times(40, "-"),
            times(41, "-"), times(40, "-") + "f", "f<<" + times(60, "f"), times(20, "f+") + "f",
            times(20, "f+"), times(39, "-") + "fx", "\u00d7"};
        int[] faults = {2, 3, 3, 3, 4, 1, 2, 1, 2, 0, 1, 1, 1, 1, 1, 0, 1, 2, 2, 0, 1, 0, 0, 4, 1,
            0, 2, 3, 2, 3, 3, 40, 40, 40, 2, 40, 40, 40, 0};
        for (int i = 0; i < texts.length; i++) {
            OysterBeds x = Checks.with("n000", "1");
            due("5: rule " + texts[i], Checks.rule(x, texts[i]), -1 - faults[i]);
            due("5: text empties of " + texts[i], x.count(10), 0);
            due("5: the rule stays at " + texts[i], x.would(0, 0), 1);
            due("47: law " + texts[i], Checks.law(x, texts[i]), -100000 - faults[i]);
        }
        String[] fine = {"", "f", "--f", "f*-2", "((((f))))", "(1<2)<3", "(1<2)<(2<3)", "007", "999",
            "1<2", "((1<2)=1)", times(39, "-") + "f", "-(-f)", "(f)*(v)", times(19, "f+") + "12"};
        for (String text : fine) {
            due("5: rule " + text, Checks.rule(new OysterBeds(), text), 0);
        }
    }

    private static void closes(OysterBeds x, String rule, int topic, int wording, boolean want) {
        due("5: rule " + rule, Checks.rule(x, rule), 0);
        due("5: closes by " + rule, x.would(topic, wording), want ? 1 : 0);
    }

    private static void promise5Values() {
        String[] so = {"7-2-1=4", "2+3*4=14", "(2+3)*4=20", "-7/2=-3", "7/-2=-3", "7/0=0",
            "8/4/2=1", "8-4+2=6", "2*3/4=1", "3/4*2=0", "-2*3=0-6", "--3=3", "2--3=5", "(1<2)=1",
            "(2<1)=0", "(2>1)+(1>1)=1", "1+1>1", "2*2>3", "1=1", "999*999*999*999<0", "007=7",
            "2-(3-4)=3", "-(2+3)=-5", "1", "999", "((((1))))", "1+2<2+2",
            "999*999*999*999/999/999=-427", "5/(1-1)+1"};
        for (String rule : so) {
            closes(Checks.with("n000"), rule, 0, 0, true);
        }
        String[] not = {"0", "-1", "1<1", "2>2", "1=2", "3<2", "--0", "0*1", "7/0", "1-1"};
        for (String rule : not) {
            closes(Checks.with("n000"), rule, 0, 0, false);
        }
        OysterBeds x = Checks.with("r704");
        closes(x, "f=7", 0, 0, true);
        closes(x, "v=1", 2, 0, true);
        closes(x, "v=0", 1, 0, true);
        closes(x, "k=2", 1, 0, true);
        closes(x, "w=6", 1, 6, true);
        closes(x, "c=0", 1, 6, true);
        closes(x, "p=0", 1, 6, true);
        closes(x, "n=0", 1, 6, true);
        x.tides(12);
        closes(x, "n=5", 1, 6, true);
        Checks.rule(x, "1");
        x.puts(0, 0);
        x.tides(9);
        closes(x, "p=1", 0, 0, true);
        closes(x, "n=0", 0, 0, true);
        OysterBeds likes = Checks.with("n000;n000;n000;p000", "c=2");
        due("5: c of likes", likes.would(0, 0), 3);
        CHECKS.row("5: c of likes", likes, 7, 0);
        OysterBeds none = Checks.with("n801;n901", "0");
        due("5: of a rule", none.would(0, 0), 0);
        due("5: none again", Checks.rule(none, ""), 0);
        due("5: none is v*9-f+w", none.would(0, 0), 1);
        due("5: none is v*9-f+w", none.would(0, 1), 2);
    }

    private static void promise6() {
        OysterBeds x = Checks.with(BEDS);
        x.puts(0, 0);
        long[] want = {2, 1, 7, 1, 1};
        for (int what = 0; what < 5; what++) {
            due("6: oyster(2, " + what + ")", oyster(x, 2, what), want[what]);
        }
        int[][] wrong = {{-1, 0}, {4, 0}, {0, -1}, {0, 5}, {9, 9}, {Integer.MIN_VALUE, 0},
            {0, Integer.MAX_VALUE}};
        for (int[] w : wrong) {
            due("6: oyster(" + w[0] + ", " + w[1] + ")", oyster(x, w[0], w[1]), Checks.THROWS);
        }
    }

    private static void sheet(int kind, int n, int f, int step, long answer, long... fears) {
        OysterBeds x = Checks.with(BEDS);
        String call = "7: sheet(" + kind + ", " + n + ", " + f + ", " + step + ")";
        due(call, x.sheet(kind, n, f, step), answer);
        state(call, x, 1, fears);
        due(call + " can't be undone", x.count(8), 0);
    }

    private static void promise7() {
        sheet(0, 8, 250, 3, 3, 0, 0, 0, 3);
        sheet(0, 4, 127, 1, 9, 9, 0, 0, 0);
        sheet(1, 2, 65540, 1, 9, 4, 5, 0, 0);
        sheet(1, 2, 32767, 1, 9, 9, 0, 0, 0);
        sheet(1, 2, 250, 1, 18, 9, 9, 0, 0);
        sheet(2, 4, 65540, 1, 36, 9, 9, 9, 9);
        sheet(2, 8, 1, 1, 10, 1, 2, 3, 4);
        sheet(2, 4, 2147483647, 1, 9, 9, 0, 0, 0);
        sheet(2, 4, 12, -4, 21, 9, 8, 4, 0);
        sheet(0, 4, 260, 256, 16, 4, 4, 4, 4);
        sheet(2, 0, 5, 5, 0, 0, 0, 0, 0);
        sheet(0, -1, 5, 5, -2, 5, 9, 1, 4);
        sheet(2, Integer.MIN_VALUE, 5, 5, -2, 5, 9, 1, 4);
        sheet(3, 2, 5, 5, -3, 0, 0, 0, 0);
        sheet(3, -1, 5, 5, -3, 0, 0, 0, 0);
        sheet(3, 9, 5, 5, -1, 5, 9, 1, 4);
        sheet(2, 9, 5, 5, -1, 5, 9, 1, 4);
        sheet(4, 2, 5, 5, -1, 5, 9, 1, 4);
        sheet(-1, -1, 5, 5, -1, 5, 9, 1, 4);
        OysterBeds x = Checks.with(BEDS);
        x.stills(0, 8);
        x.sheet(2, 4, 7, 0);
        due("7: undo of what was ahead of it", x.undo(), 0);
        state("7: undo of what was ahead of it", x, 1, 5, 9, 1, 4);
    }

    private static void promise8() {
        OysterBeds x = Checks.with(BEDS);
        due("8: puts(0, 0)", x.puts(0, 0), 3);
        CHECKS.row("8: puts(0, 0)", x, 13, 2);
        state("8: puts(0, 0)", x, 3, 3, 0, 1, 3);
        state("8: puts(0, 0)", x, 4, 1, 0, 1, 1);
        state("8: puts(0, 0)", x, 1, 5, 9, 1, 4);
        due("8: asked", x.count(3), 1);
        due("8: puts(1, 9)", x.puts(1, 9), 1);
        CHECKS.row("8: puts(1, 9)", x, 2, 0);
        state("8: by fear 9", x, 3, 3, 5, 1, 3);
        int[][] wrong = {{4, 0}, {-1, 0}, {0, 10}, {0, -1}};
        for (int[] w : wrong) {
            due("8: puts(" + w[0] + ", " + w[1] + ")", x.puts(w[0], w[1]), -1);
        }
        CHECKS.row("8: refused", x, 2, 0);
        due("8: asked", x.count(3), 2);
        due("8: undos", x.count(8), 2);
        OysterBeds all = Checks.with("n000;n000", "c");
        due("8: all as all is ahead of it", all.puts(0, 0), 2);
        OysterBeds many = Checks.with("n000", "1");
        for (int i = 0; i < 101; i++) {
            many.puts(0, 0);
            many.tides(1);
        }
        due("8: 99 pearls at most", oyster(many, 0, 4), 99);
        due("8: asked", many.count(3), 101);
        due("8: no oysters", new OysterBeds().puts(1, 5), 0);
    }

    private static void promise9() {
        OysterBeds x = Checks.with(BEDS);
        x.puts(0, 0);
        due("9: tides(1)", x.tides(1), 2);
        CHECKS.row("9: tides(1)", x, 4);
        state("9: tides(1)", x, 3, 2, 0, 0, 2);
        due("9: tides(0)", x.tides(0), 2);
        CHECKS.row("9: tides(0)", x, 0);
        due("9: tides(60)", x.tides(60), 4);
        CHECKS.row("9: tides(60)", x, 9);
        due("9: TIDE", x.count(2), 61);
        due("9: tides(61)", x.tides(61), -1);
        due("9: tides(-1)", x.tides(-1), -1);
        due("9: TIDE", x.count(2), 61);
        due("9: undos", x.count(8), 4);
        CHECKS.row("9: refused", x, 9);
    }

    private static void promise10() {
        OysterBeds x = Checks.with(BEDS);
        x.puts(0, 0);
        due("10: stills(1, 2)", x.stills(1, 2), 19);
        due("10: again", x.stills(1, 2), -2);
        due("10: stills(0, 0)", x.stills(0, 0), 15);
        due("10: stills(0, 9)", x.stills(0, 9), 10);
        state("10", x, 1, 9, 2, 1, 4);
        state("10: shut stays", x, 3, 3, 0, 1, 3);
        int[][] wrong = {{1, 10}, {1, -1}, {4, 2}, {-1, 2}, {8, 2}};
        for (int[] w : wrong) {
            due("10: stills(" + w[0] + ", " + w[1] + ")", x.stills(w[0], w[1]), -1);
        }
        due("10: undos", x.count(8), 4);
        CHECKS.row("10: the row stays", x, 13, 2);
    }

    private static void promise11() {
        OysterBeds x = Checks.with(BEDS);
        due("11: holds(1, 15)", x.holds(1, 15), 22);
        due("11: again", x.holds(1, 15), -2);
        due("11: holds(1, 0)", x.holds(1, 0), 35);
        due("11: holds(1, 1)", x.holds(1, 1), 20);
        state("11", x, 2, 3, 1, 7, 1);
        int[][] wrong = {{1, 16}, {1, -1}, {4, 2}, {-1, 2}, {8, 2}};
        for (int[] w : wrong) {
            due("11: holds(" + w[0] + ", " + w[1] + ")", x.holds(w[0], w[1]), -1);
        }
        due("11: undos", x.count(8), 3);
    }

    private static void promise12() {
        OysterBeds x = Checks.with(BEDS);
        x.puts(2, 0);
        x.tides(1);
        x.puts(0, 0);
        due("12: knife(2)", x.knife(2), 2);
        due("12: knife(2) again", x.knife(2), -2);
        due("12: knife(1), open", x.knife(1), -2);
        state("12", x, 3, 3, 0, 0, 3);
        state("12", x, 4, 1, 0, 0, 1);
        due("12: knife(4)", x.knife(4), -1);
        due("12: knife(-1)", x.knife(-1), -1);
        due("12: undos", x.count(8), 4);
    }

    private static void promise13() {
        OysterBeds x = Checks.with(BEDS);
        due("13: none", Checks.season(x, ""), 0);
        CHECKS.row("13: none", x, 0, 4);
        due("13: nothing to undo", x.count(8), 0);
        due("13: season", Checks.season(x, "q00n1k0f12v115"), 5);
        CHECKS.row("13: season", x, 0, 3);
        state("13: season", x, 1, 5, 2, 1, 4);
        state("13: season", x, 2, 3, 15, 7, 1);
        state("13: season", x, 3, 0, 0, 0, 2);
        state("13: season", x, 4, 0, 0, 1, 1);
        due("13: TIDE", x.count(2), 1);
        due("13: ASKED", x.count(3), 1);
        due("13: one to undo", x.count(8), 1);
        due("13: undo", x.undo(), 0);
        state("13: undo", x, 1, 5, 9, 1, 4);
        due("13: TIDE undone", x.count(2), 0);
        due("13: the second is refused", Checks.season(x, "f12f12n1"), 1);
        CHECKS.row("13: the second is refused", x, 1, 4);
        due("13: nothing behind it", x.count(2), 0);
        due("13: undos", x.count(8), 1);
        String[] refused = {"k0n1", "v116n1", "f40n1", "v403n1", "k9n1", "f90n1", "v099"};
        for (String text : refused) {
            due("13: " + text, Checks.season(x, text), 0);
            CHECKS.row("13: " + text, x, 1, 4);
        }
        due("13: undos", x.count(8), 1);
        due("13: n9", Checks.season(x, "n9"), 1);
        due("13: TIDE", x.count(2), 9);
    }

    private static void promise13Faults() {
        String[] texts = {"x", "n", "nx", "q4", "q0", "qx", "f1", "f", "v00", "v0000", "n1x", "1",
            "k", "q0x", "n11", times(30, "n0") + "n", times(29, "n0") + "nx0",
            times(28, "n0") + "n0f1", times(28, "n0") + "n0f11", times(28, "n0") + "q0f1", "N1",
            "n1;n1", times(15, "v000") + "v"};
        int[] faults = {0, 1, 1, 1, 2, 1, 2, 1, 3, 4, 2, 0, 1, 2, 2, 60, 59, 60, 60, 58, 0, 2, 60};
        for (int i = 0; i < texts.length; i++) {
            OysterBeds x = Checks.with(BEDS);
            due("13: season " + texts[i], Checks.season(x, texts[i]), -1 - faults[i]);
            due("13: nothing is done of " + texts[i], x.count(2), 0);
            due("13: nothing to undo of " + texts[i], x.count(8), 0);
            due("13: text empties of " + texts[i], x.count(10), 0);
            CHECKS.row("13: the row stays at " + texts[i], x);
        }
        OysterBeds x = new OysterBeds();
        due("13: sixty signs", Checks.season(x, times(30, "n1")), 30);
        due("13: sixty signs", x.count(2), 30);
        due("13: q30", Checks.season(x, "q30q39"), 2);
        due("13: q30", x.count(3), 2);
    }

    private static void promise14() {
        OysterBeds x = Checks.with(BEDS);
        due("14: none", x.undo(), -1);
        x.puts(0, 0);
        x.tides(2);
        x.holds(0, 9);
        x.knife(0);
        x.puts(0, 9);
        due("14: undo", x.undo(), 4);
        state("14: puts undone", x, 3, 0, 0, 0, 1);
        due("14: ASKED", x.count(3), 1);
        due("14: undo", x.undo(), 3);
        state("14: knife undone", x, 4, 1, 0, 1, 1);
        state("14: knife undone", x, 3, 1, 0, 0, 1);
        due("14: undo", x.undo(), 2);
        state("14: holds undone", x, 2, 3, 2, 7, 1);
        due("14: TIDE", x.count(2), 2);
        due("14: undo", x.undo(), 1);
        state("14: tides undone", x, 3, 3, 0, 1, 3);
        due("14: TIDE undone", x.count(2), 0);
        due("14: undo", x.undo(), 0);
        due("14: ASKED undone", x.count(3), 0);
        due("14: PEARLS undone", x.count(4), 0);
        due("14: none left", x.undo(), -1);
        for (int i = 0; i < 17; i++) {
            x.tides(1);
            due("14: undos", x.count(8), Math.min(15, i + 1));
        }
        for (int i = 14; i >= 0; i--) {
            due("14: undo of 15", x.undo(), i);
            due("14: TIDE", x.count(2), i + 2);
        }
        due("14: the oldest are gone", x.undo(), -1);
        due("14: TIDE", x.count(2), 2);
        Checks.rule(x, "0");
        x.seen(0, 0, 1);
        x.heard(0, 0);
        x.stills(0, 0);
        x.undo();
        due("14: the rule stays", x.would(0, 9), 0);
        due("14: what was seen stays", x.count(6), 1);
        due("14: what was heard stays", x.count(7), 1);
    }

    private static void promise14Forgotten() {
        OysterBeds x = Checks.with(BEDS);
        x.stills(0, 0);
        x.stills(0, 0);
        x.holds(0, 16);
        x.knife(0);
        x.puts(0, 10);
        x.tides(61);
        due("14: refused ones are not kept", x.count(8), 1);
        Checks.oysters(x, "n0");
        due("14: refused oysters forget nothing", x.count(8), 1);
        Checks.oysters(x, "");
        due("14: no oysters forget nothing", x.count(8), 1);
        x.again(0);
        due("14: refused again forgets nothing", x.count(8), 1);
        Checks.oysters(x, "n000");
        due("14: oysters forget them", x.count(8), 0);
        due("14: none", x.undo(), -1);
        x.keep(0);
        x.tides(0);
        due("14: no tides can be undone", x.count(8), 1);
        x.again(0);
        due("14: again forgets them", x.count(8), 0);
    }

    private static void promise50And51() {
        OysterBeds x = Checks.with(BEDS);
        for (int i = -1; i <= 3; i++) {
            CHECKS.due("51: nothing kept " + i, x.again(i), false);
        }
        x.puts(0, 0);
        CHECKS.due("50: keep(0)", x.keep(0), true);
        x.tides(1);
        x.stills(1, 0);
        x.holds(1, 0);
        CHECKS.due("50: keep(2)", x.keep(2), true);
        CHECKS.due("50: keep(3)", x.keep(3), false);
        CHECKS.due("50: keep(-1)", x.keep(-1), false);
        due("50: undos stay", x.count(8), 4);
        x.season();
        x.puts(1, 9);
        CHECKS.due("51: again(0)", x.again(0), true);
        state("51: again(0)", x, 1, 5, 9, 1, 4);
        state("51: again(0)", x, 2, 3, 2, 7, 1);
        state("51: again(0)", x, 3, 3, 0, 1, 3);
        state("51: again(0)", x, 4, 1, 0, 1, 1);
        due("51: TIDE", x.count(2), 0);
        due("51: ASKED", x.count(3), 1);
        due("51: undos", x.count(8), 0);
        CHECKS.due("51: again(2)", x.again(2), true);
        state("51: again(2)", x, 1, 5, 0, 1, 4);
        due("51: TIDE", x.count(2), 1);
        CHECKS.due("51: again(1)", x.again(1), false);
        CHECKS.due("51: again(0), twice", x.again(0), true);
        Checks.oysters(x, "n99");
        Checks.oysters(x, "");
        CHECKS.due("51: none came", x.again(0), true);
        Checks.oysters(x, "n000");
        x.tides(1);
        CHECKS.due("51: oysters came", x.again(0), false);
        due("51: undos stay", x.count(8), 1);
        CHECKS.due("50: keep(0) once more", x.keep(0), true);
        CHECKS.due("51: again(0) then", x.again(0), true);
        CHECKS.due("51: again(2) not", x.again(2), false);
    }

    private static void promise52() {
        OysterBeds x = Checks.with(BEDS);
        x.puts(0, 0);
        x.tides(1);
        x.seen(0, 0, 1);
        x.seen(0, 0, 1);
        x.heard(0, 0);
        x.sign(0);
        long[] want = {4, 6, 1, 1, 3, 19, 2, 1, 2, 1, 4};
        for (int what = 0; what <= 10; what++) {
            due("52: count(" + what + ")", x.count(what), want[what]);
        }
        due("52: count(11)", x.count(11), -100);
        due("52: count(-1)", x.count(-1), -100);
        due("52: count(min)", x.count(Integer.MIN_VALUE), -100);
    }

    private static void promise53() {
        OysterBeds x = Checks.with(BEDS);
        x.shyest(0, 0);
        CHECKS.row("53: three", x, 2, 0, 1);
        due("53: row(max)", Checks.answerOf(() -> x.row(Integer.MAX_VALUE)), Checks.THROWS);
        due("53: row(min)", Checks.answerOf(() -> x.row(Integer.MIN_VALUE)), Checks.THROWS);
        x.later(0);
        CHECKS.row("53: one", x, 4);
    }
}
