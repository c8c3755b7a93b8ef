/** The edges that the TERMS name, and promises 1 to 7: each sentence in a test of its own. */
public final class TermsEdgesTest extends Edges {
    public static void main(String[] args) {
        oysters();
        lines();
        states();
        rule();
        comparisons();
        sums();
        things();
        letters();
        ints();
        questions();
        asking();
        most();
        tide();
        rows();
        rowGoes();
        rowStays();
        questionsChangeNothing();
        refusals();
        last();
        promise1();
        promise2();
        promise3();
        promise4();
        promise4Faults();
        promise4Room();
        promise5();
        promise5Faults();
        promise6();
        promise7();
        promise7Entries();
        promise7Refused();
        Run.end();
    }

    private static Run of(String quote) {
        return Run.of(Run.TERMS, quote);
    }

    // ---- terms: OYSTERS

    private static void oysters() {
        of("OYSTERS 0 .. (at most 8)").reads("oysters()", EIGHT, 8).due("count(0)", 8)
                .due("oyster(0, 0)", 0).due("oyster(7, 0)", 0).due("oyster(8, 0)", THROWS)
                .reads("oysters()", "n000", -1).due("count(0)", 8);
        of("a letter (n, p or r: KIND 0, 1, 2)").reads("oysters()", "r000;n000;p000", 3)
                .each(0, 2, 0, 1);
        for (char letter : "moqsNPR0; \0\377\356\360".toCharArray()) {
            of("a letter (n, p or r: KIND 0, 1, 2)").reads("oysters()", letter + "000", -1);
        }
        of("KIND 0 .. 2 (a native, a Portuguese, a rock one)").with("n000;p000;r000", "1")
                .due("shyest(0, 0)", 0, 1, 1, 1);
        of("FEAR 0 .. 9").reads("oysters()", "n000;n900;n100;n800", 4).each(1, 0, 9, 1, 8);
        of("VIEW 0 .. 15 (bits: of TOPICS 0 .. 3 it holds yes, else no)")
                .with("n001;n002;n004;n008;n015;n000", "v").each(2, 1, 2, 4, 8, 15, 0)
                .due("would(0, 0)", 2, 17, 2).due("would(1, 0)", 2, 18, 2)
                .due("would(2, 0)", 2, 20, 2).due("would(3, 0)", 2, 24, 2);
    }

    private static void lines() {
        of("They are told by a text of at most 39 signs").reads("oysters()", EIGHT, 8);
        of("They are told by a text of at most 39 signs").reads("oysters()", EIGHT + ";", -40)
                .due("count(0)", 0);
        of("LINES with ; between, each one more").reads("oysters()", "n000", 1)
                .reads("oysters()", "p000;r000", 2).each(0, 0, 1, 2);
        for (char between : ":<,n0 ".toCharArray()) {
            of("LINES with ; between, each one more")
                    .reads("oysters()", "n000" + between + "n000", -5).due("count(0)", 0);
        }
        of("a digit (FEAR)").reads("oysters()", "n/00", -2).reads("oysters()", "n:00", -2)
                .reads("oysters()", "n\26300", -2).due("count(0)", 0);
        of("two digits (VIEW, 00 .. 15)").reads("oysters()", "n000;n009;n010;n015", 4)
                .each(2, 0, 9, 10, 15).reads("oysters()", "n016", -4)
                .reads("oysters()", "n0/0", -3).reads("oysters()", "n0:0", -3)
                .reads("oysters()", "n00/", -4).reads("oysters()", "n00:", -4).due("count(0)", 4);
    }

    private static void states() {
        of("SHUT 0 .. 9 (so many TIDES yet; 0: it is OPEN; at first 0)").with("n000;n900", "1")
                .each(3, 0, 0).due("count(1)", 3).does("puts(0, 0)").each(3, 1, 5)
                .due("count(1)", 0).does("tides(1)").each(3, 0, 4).due("count(1)", 1)
                .does("tides(3)").each(3, 0, 1).due("count(1)", 1).does("tides(1)")
                .each(3, 0, 0).due("count(1)", 3);
        of("PEARL 0 .. 99 (at first 0)").with(BEDS).each(4, 0, 0, 0, 0).due("count(4)", 0);
        of("TIDE (at first 0), ASKED 0 .. 9999 (at first 0)").due("count(2)", 0)
                .due("count(3)", 0);
    }

    // ---- terms: THE RULE

    private static void so(String quote, String... rules) {
        for (String rule : rules) {
            of(quote).with("n000").reads("rule()", rule, 0).due("would(0, 0)", 1, 1, 0);
        }
    }

    private static void notSo(String quote, String... rules) {
        for (String rule : rules) {
            of(quote).with("n000").reads("rule()", rule, 0).due("would(0, 0)", 0, 0, 0);
        }
    }

    private static void fault(String quote, String rule, int at) {
        of(quote).with("n000", "1").reads("rule()", rule, -1 - at).due("would(0, 0)", 1)
                .reads("law()", rule, -100000 - at);
    }

    private static void rule() {
        so("THE RULE is a text of at most 40 signs", "-".repeat(38) + "12", "9" + "-0".repeat(19),
                "f+".repeat(18) + "f+12");
        fault("THE RULE is a text of at most 40 signs", "-".repeat(38) + "123", 40);
        of("(at first none: v*9-f+w)").with("n801;n901;n000").due("would(0, 0)", 1, 1, 1)
                .due("would(0, 1)", 3, 7, 2).due("would(1, 0)", 0, 0, 0)
                .due("would(1, 8)", 1, 4, 0).due("would(1, 9)", 2, 5, 0)
                .reads("law()", "v*9-f+w", 0);
    }

    private static void comparisons() {
        String least = "< > = bind least (two; 1 or 0; not one behind the other)";
        so(least, "1+1>1", "2=1+1", "1<2*1", "0>-1", "2*2>3", "1+2<2+2", "6/2=3", "0-1<0");
        notSo(least, "1<1", "1>1", "1=2", "2=1", "2<1", "1>2", "0<0", "0=1", "3<2");
        so(least, "(1<2)=1", "(2>1)=1", "(1=1)=1", "(2<1)=0", "(1>2)=0", "(1=2)=0",
                "(1<1)+(1>1)=0", "(1=1)+(0<1)+(1>0)=3");
        fault(least, "1<2<3", 3);
        fault(least, "1>2>3", 3);
        fault(least, "1=2=3", 3);
        fault(least, "1<2=3", 3);
        fault(least, "1=2+3>4", 5);
        fault(least, "(1<2>3)", 4);
        fault(least, "1<(2<3)<4", 7);
        fault(least, "(1<2)<(2<3)<1", 11);
        fault(least, "<1", 0);
        fault(least, "1<<1", 2);
        fault(least, "1<=1", 2);
        so(least, "(1<2)<(2)", "1<((1<2)+1)", "0<(1<2)", "(1<2)*(1<2)>0", "((1<2)<2)<2");
    }

    private static void sums() {
        String sum = "then + - (from the left)";
        so(sum, "7-2-1=4", "7-2+1=6", "1-2-3=-4", "1+2-3+4=4", "1-1+1");
        so(sum, "2+3*4=14", "3*4+2=14", "9-6/2=6");
        String product = "then * / (from the left; by 0: 0; cut to 0)";
        so(product, "8/4/2=1", "8/4*2=4", "2*3/4=1", "3/4*2=0", "2*3*4=24", "7/1=7");
        so(product, "7/0=0", "0/0=0", "-7/0=0", "1+7/0=1", "7/(1-1)=0", "7/f=0", "7/0*2=0");
        notSo(product, "7/0", "0/0", "0/7", "6/7", "-6/7");
        so(product, "7/2=3", "-7/2=-3", "7/-2=-3", "-7/-2=3", "-1/2=0", "1/2=0", "998/999=0",
                "8/9+1");
        fault(product, "999/*1", 4);
        fault(product, "*1", 0);
        fault(product, "1*/1", 2);
    }

    private static void things() {
        String ahead = "then - ahead of a thing (any many)";
        so(ahead, "--1", "---1=-1", "2--1=3", "2-1=1", "-2*-3=6", "-2+3=1", "2*-3=-6", "-(1-2)",
                "-(2)*3=-6", "-f=0", "--(--1)", "-1<0", "1>-1", "2---1=1", "-".repeat(38) + "1");
        notSo(ahead, "-1", "---1", "-".repeat(39) + "1");
        fault(ahead, "-", 1);
        fault(ahead, "--", 2);
        fault(ahead, "-*1", 1);
        fault(ahead, "+1", 0);
        String number = "a NUMBER of 1 to 3 digits";
        so(number, "1", "12=11+1", "123=122+1", "999=998+1", "007=7", "010=10", "09=9");
        notSo(number, "0", "00", "000");
        fault(number, "1234", 3);
        fault(number, "0001", 3);
        fault(number, "1+1234", 5);
        fault(number, "(123)4", 5);
        fault(number, "f1", 1);
        fault(number, "1f", 1);
        fault(number, "1(2)", 1);
        fault(number, "/", 0);
        fault(number, ":", 0);
        String brackets = "an EXPRESSION in ( ) (at most 4 in one another)";
        so(brackets, "(1)", "((1))", "(((1)))", "((((1))))", "(1)+(1)+(1)+(1)+(1)+(1)=6",
                "((((1))))+((((1))))=2", "((((1)+(1))))=2", "-(-(-(-(1))))");
        fault(brackets, "(((((1)))))", 4);
        fault(brackets, "((((1+(1)))))", 6);
        fault(brackets, "((((1))))+(((((1)))))", 14);
        fault(brackets, "()", 1);
        fault(brackets, "(1))", 3);
        fault(brackets, ")", 0);
        fault(brackets, "1)", 1);
    }

    private static void letters() {
        of("f FEAR").with("n000;n100;n900", "f=9").due("would(0, 0)", 1, 4, 0)
                .reads("rule()", "f=0", 0).due("would(0, 0)", 1, 1, 0)
                .reads("rule()", "f", 0).due("would(0, 0)", 2, 6, 0);
        of("v 1 if it holds yes of the TOPIC, else 0").with("n008;n007;n015;n000", "v=1")
                .due("would(3, 0)", 2, 5, 2).due("would(0, 0)", 2, 6, 2)
                .reads("rule()", "v=0", 0).due("would(3, 0)", 2, 10, 0)
                .due("would(2, 9)", 2, 9, 0);
        of("k KIND").with("n000;p000;r000", "k=0").due("would(0, 0)", 1, 1, 0)
                .reads("rule()", "k=1", 0).due("would(0, 0)", 1, 2, 0)
                .reads("rule()", "k=2", 0).due("would(0, 0)", 1, 4, 0);
        of("w WORDING").with("n000", "w=9").due("would(0, 9)", 1).due("would(0, 8)", 0)
                .reads("rule()", "w=0", 0).due("would(0, 0)", 1).due("would(0, 1)", 0);
        String others = "c how many others of its KIND are OPEN";
        of(others).with("n000;p000;p000;r000", "c=0").due("would(0, 0)", 2, 9, 0)
                .reads("rule()", "c=1", 0).due("would(0, 0)", 2, 6, 0);
        of(others).with(EIGHT, "c=7").due("would(0, 0)", 8, 255, 0);
        of(others).with("n000;n100;n200", "f=2").does("puts(0, 0)").reads("rule()", "c=1", 0)
                .due("would(0, 0)", 2, 3, 0);
        of("p PEARL").with("n000;n100", "f").does("puts(0, 0)", "tides(1)", "puts(0, 0)", "tides(9)")
                .reads("rule()", "p=0", 0).due("would(0, 0)", 1, 1, 0)
                .reads("rule()", "p=2", 0).due("would(0, 0)", 1, 2, 0);
        String rest = "n TIDE by 7 (rest)";
        Run x = of(rest).with("n000", "n=6").due("would(0, 0)", 0);
        x.does("tides(6)").due("would(0, 0)", 1).does("tides(1)").due("would(0, 0)", 0)
                .reads("rule()", "n=0", 0).due("would(0, 0)", 1).does("tides(1)")
                .due("would(0, 0)", 0).does("tides(6)").due("would(0, 0)", 1);
        for (char sign : "abdeghijlmoqrstuxyzFVKWCPN.,;!%~ \0\377\u00b2".toCharArray()) {
            fault("things:", sign + "", 0);
            fault("things:", "1+" + sign, 2);
            fault("things:", "1" + sign, 1);
        }
    }

    private static void ints() {
        so("As ints", "512*512*512*16<0", "512*512*512*32=0", "512*512*512*16-1>0",
                "-(512*512*512*16)<0", "512*512*512*16/-1<0",
                "512*512*512*16/-1=512*512*512*16", "999*999*999*999/999/999=-427",
                "512*512*512*8+512*512*512*8<0", "512*512*512*16-1");
        notSo("As ints", "512*512*512*16", "512*512*512*32", "512*512*512*16/-1",
                "999*999*999*999");
        so("it CLOSES, if it is OPEN, and this is above 0", "1", "2", "999");
        notSo("it CLOSES, if it is OPEN, and this is above 0", "0", "-1", "-999");
        of("it CLOSES, if it is OPEN, and this is above 0").with("n900;n000", "f")
                .does("puts(0, 0)").reads("rule()", "1", 0).due("would(0, 0)", 1, 2, 0)
                .does("tides(4)").due("would(0, 0)", 1, 2, 0).does("tides(1)")
                .due("would(0, 0)", 2, 3, 0);
    }

    // ---- terms: what is asked, what goes by

    private static void questions() {
        String has = "A question has a TOPIC (0 .. 3) and a WORDING (0 .. 9).";
        String[] calls = {"puts(T, W)", "would(T, W)", "shyest(T, W)", "repeats(T, W, 1)",
            "seen(T, W, 0)", "slips(T, W, 0, 0)"};
        int[][] questions = {{0, 0}, {0, 9}, {3, 0}, {3, 9}, {-1, 0}, {4, 0}, {0, -1}, {0, 10},
            {-1, 10}, {4, -1}, {10, 3}};
        for (String call : calls) {
            for (int i = 0; i < questions.length; i++) {
                Run x = of(has).with("n000", "0");
                String asked = call.replace("T", "" + questions[i][0])
                        .replace("W", "" + questions[i][1]);
                x.due(asked, i > 3 ? NONE : call.startsWith("seen") ? 1 : 0)
                        .due("count(3)", i <= 3 && call.startsWith("puts") ? 1 : 0);
            }
        }
        of(has).due("words(0, 0)", 0).due("words(3, 0)", 0).due("words(4, 0)", NONE)
                .due("words(-1, 0)", NONE).due("yes(0)", 0).due("yes(3)", 0).due("yes(4)", NONE)
                .due("yes(-1)", NONE);
    }

    private static void asking() {
        of("(all as all is ahead of it)").with("n000;n000;n000", "c=2").due("puts(0, 0)", 3, 7, 0);
        of("(all as all is ahead of it)").with("n000;n000;n000", "c=1").due("puts(0, 0)", 0, 0, 7);
        of("has SHUT 1 and FEAR by 2 (cut) more")
                .with("n000;n100;n200;n300;n600;n700;n800;n900", "1").does("puts(0, 0)")
                .each(3, 1, 1, 2, 2, 4, 4, 5, 5).each(1, 0, 1, 2, 3, 6, 7, 8, 9);
        of("has SHUT 1 and FEAR by 2 (cut) more").with("n700;n300", "f=7").does("puts(0, 0)")
                .each(3, 4, 0);
        of("PEARL 1 more").with("n000;n100", "f").does("puts(0, 0)").each(4, 0, 1)
                .does("tides(1)", "puts(3, 9)").each(4, 0, 2).due("count(4)", 2);
        of("ASKED is 1 more").with("n000", "0").does("puts(0, 0)").due("count(3)", 1)
                .does("puts(3, 9)").due("count(3)", 2);
        of("ASKED is 1 more").does("puts(0, 0)").due("count(3)", 1);
    }

    private static void most() {
        Run x = of("PEARL 1 more (99 at most)").with("n000;n001", "1");
        x.doesTimes(98, "puts(0, 0)", "tides(1)").each(4, 98, 98).does("puts(0, 0)")
                .each(4, 99, 99).does("tides(1)").due("puts(0, 0)", 2, 3, 0).each(4, 99, 99)
                .each(3, 1, 1).does("tides(1)").due("puts(0, 0)", 2, 3, 0).due("count(4)", 198)
                .due("knife(0)", 99).each(4, 0, 99).each(3, 0, 1).does("undo()").each(4, 99, 99);
        // So many as can be asked in 512 calls: 9999 can't.
        Run y = of("ASKED is 1 more (9999 at most)");
        for (int i = 1; i <= 28; i++) {
            y.text("q00".repeat(20)).due("season()", 20).due("count(3)", 20 * i);
        }
    }

    private static void tide() {
        of("SHUT of each is 1 less (0 at least)").with("n000;n900;n200", "f").does("puts(0, 0)")
                .each(3, 0, 5, 2).does("tides(1)").each(3, 0, 4, 1).does("tides(1)")
                .each(3, 0, 3, 0).does("tides(1)").each(3, 0, 2, 0).does("tides(60)")
                .each(3, 0, 0, 0);
        of("TIDE is 1 more").does("tides(1)").due("count(2)", 1).does("tides(60)", "tides(60)")
                .due("count(2)", 121).text("n9n1").does("season()").due("count(2)", 131);
    }

    // ---- terms: ROW, refusals

    private static void rows() {
        of("ROW: numbers told last by a call that says so").with(BEDS).row()
                .due("shyest(0, 0)", 0, 2, 0, 1).due("later(0)", 15, 4).due("line()", 4, 0, 1, 2, 3)
                .due("loudest()", 15, 4, 0);
        of("Sets (of OYSTERS, TOPICS) are bits").with(EIGHT, "1").due("would(0, 0)", 8, 255, 0)
                .due("count(1)", 255).due("later(0)", 255, 8).due("fits()", 255, 8)
                .due("sorts()", 1, 255).does("stills(7, 9)").reads("rule()", "f", 0)
                .due("would(0, 0)", 1, 128, 0).due("puts(0, 0)", 1, 128, 127);
        of("Sets (of OYSTERS, TOPICS) are bits").with("n000;n008").due("tells()", 1, 8);
        of("Rows are compared from the first number on").with("n003;n012;n012;n003")
                .due("nearest()", 0, 0, 3);
        of("Fractions are told in lowest terms, upper and lower number (0 by 1)").with(EIGHT, "1")
                .due("slips(0, 0, 0, 7)", 0, 0, 1).due("slips(0, 0, 5, 4)", 0, 35, 128)
                .due("slips(0, 0, 0, 8)", 0, 1, 1).due("sound(5, 5, 5, 8, 8)", 0, 1, 2)
                .due("sound(0, 5, 5, 8, 8)", 0, 0, 1).due("pivots(0)", 0, 1, 8);
        of("Fractions are told in lowest terms, upper and lower number (0 by 1)").with("n000;n900")
                .due("power(1)", 0, 0, 1).due("pivots(1)", 0, 0, 1).due("power(0)", 0, 1, 1);
    }

    /** Of each call that tells a ROW just its own numbers are there, none of a longer one. */
    private static void rowGoes() {
        String quote = "ROW: numbers told last by a call that says so";
        String[] calls = {"puts(3, 0)", "tides(0)", "would(0, 0)", "words(0, 3)", "honest()",
            "shyest(0, 0)", "loudest()", "repeats(0, 0, 2)", "later(0)", "opens(1)", "line()",
            "yes(0)", "whole()", "middle()", "nearest()", "sorts()", "tells()", "jury()",
            "power(0)", "pivots(0)", "rules()", "parties()", "cares(0)", "next(0)", "fits()",
            "asks()", "slips(0, 0, 1, 1)", "sound(5, 8, 2, 1, 1)", "law()", "wordings(0)",
            "years(1, 1)", "season()"};
        int[] numbers = {2, 1, 2, 2, 1, 3, 2, 2, 1, 1, 4, 4, 2, 2, 2, 1, 1, 1, 2, 2, 2, 2, 3, 1, 1,
            1, 2, 2, 2, 2, 2, 2};
        for (int i = 0; i < calls.length; i++) {
            of(quote).with(BEDS).does("repeats(0, 0, 20)").due("count(9)", 12).does(calls[i])
                    .due("count(9)", numbers[i]).due("row(" + numbers[i] + ")", THROWS);
        }
        Run x = of(quote).does("repeats(0, 0, 20)").due("sorts()", 0).row();
        x.does("repeats(0, 0, 20)").due("line()", 0).row().does("repeats(0, 0, 20)")
                .due("wordings(20)", 0).row();
        of(quote).with("n000", "0").does("seen(0, 0, 1)", "repeats(0, 0, 20)")
                .due("cares(0)", 0, 0);
    }

    /** Calls that say nothing of a ROW. */
    private static void rowStays() {
        String quote = "ROW: numbers told last by a call that says so";
        Run x = of(quote).with(BEDS).does("shyest(0, 0)");
        for (String call : new String[] {"sign(0)", "end(0)", "oysters()", "rule()", "oyster(0, 0)",
            "sheet(2, 4, 1, 1)", "sheet(3, 0, 0, 0)", "stills(0, 9)", "holds(0, 0)", "calm()"}) {
            x.does(call).row(2, 0, 1);
        }
        Run y = of(quote).with(BEDS, "1").does("puts(0, 0)", "stills(0, 0)", "shyest(0, 0)");
        for (String call : new String[] {"knife(0)", "undo()", "seen(0, 0, 0)", "forget()",
            "heard(0, 0)", "denies()", "firm(5, 2)", "keep(0)", "again(0)", "count(0)"}) {
            y.does(call).row(0, 0, 0);
        }
        of(quote).with(BEDS).does("shyest(0, 0)").reads("oysters()", "n000", 1).row(2, 0, 1)
                .reads("oysters()", "x", -1).row(2, 0, 1).reads("rule()", "f", 0).row(2, 0, 1)
                .reads("rule()", "x", -1).row(2, 0, 1).reads("season()", "x", -1).row(2, 0, 1)
                .reads("law()", "x", -100000).row(2, 0, 1);
    }

    private static void questionsChangeNothing() {
        Run.onlyTells(Run.TERMS, "Questions to this machine change nothing", "would(0, 9)",
                "words(1, 3)", "honest()", "shyest(1, 2)", "loudest()", "repeats(0, 0, 20)",
                "later(99)", "calm()", "opens(4)", "line()", "yes(1)", "whole()", "middle()",
                "nearest()", "sorts()", "tells()", "jury()", "power(0)", "pivots(1)", "rules()",
                "parties()", "cares(0)", "next(1)", "fits()", "asks()", "slips(0, 9, 3, 1)",
                "sound(5, 8, 2, 8, 4)", "firm(60, 30)", "wordings(9)", "years(7, 60)",
                "years(-1, 60)", "count(0)", "count(11)", "oyster(0, 0)", "oyster(9, 0)", "row(0)",
                "row(99)");
    }

    private static void refusals() {
        String first = "NONE comes ahead of other answers below 0";
        of(first).with("n000").due("opens(8)", -2).due("opens(9)", NONE).due("opens(-1)", NONE)
                .due("words(0, 8)", -2).due("words(4, 8)", NONE).due("words(-1, 8)", NONE)
                .due("words(0, 9)", NONE);
        of(first).with("n000").does("seen(0, 0, 8)").due("next(0)", -2).due("next(1)", NONE)
                .due("next(-1)", NONE);
        of(first).due("sound(10, 0, 5, 1, 1)", -2).due("sound(10, 0, 5, 1, 2)", NONE)
                .due("sound(10, 0, 11, 1, 1)", NONE).due("sound(10, 0, -1, 1, 1)", NONE)
                .due("sheet(2, -1, 0, 0)", -2).due("sheet(4, -1, 0, 0)", NONE)
                .due("sheet(-1, -1, 0, 0)", NONE).due("sheet(3, 8, 0, 0)", -3)
                .due("sheet(3, 9, 0, 0)", NONE);
        String row = "the ROW stays with each answer below 0 that tells of a refusal, or that "
                + "there is none";
        of(row).with("n000", "1").does("shyest(0, 0)").due("words(0, 0)", -2, 1, 0, 0)
                .due("honest()", -2, 1, 0, 0).due("opens(2)", -2, 1, 0, 0)
                .due("nearest()", -2, 1, 0, 0).due("sound(10, 0, 5, 1, 1)", -2, 1, 0, 0)
                .does("seen(0, 0, 8)").due("next(0)", -2, 1, 0, 0).does("heard(0, 1)")
                .due("asks()", -2, 1, 0, 0).due("stills(0, 0)", -2, 1, 0, 0)
                .due("holds(0, 0)", -2, 1, 0, 0).due("knife(0)", -2, 1, 0, 0)
                .due("sheet(0, -1, 0, 0)", -2, 1, 0, 0).due("sheet(3, 0, 0, 0)", -3, 1, 0, 0);
        of(row).with("n001;n002").does("shyest(0, 0)").due("jury()", -2, 1, 0, 0);
        of(row).does("shyest(0, 0)").due("rules()", -2, 0, 0, 0).due("jury()", -2, 0, 0, 0);
        of("but THE TEXT, which a call that reads it empties").reads("oysters()", "n000;x", -6)
                .reads("oysters()", "n000", 1).reads("rule()", "1<", -3).reads("rule()", "1", 0)
                .reads("season()", "n", -2).reads("season()", "n1", 1).reads("law()", "f)", -100001)
                .reads("law()", "f", -40);
        of("THE TEXT, which a call that reads it empties").text("n1").does("would(0, 0)",
                "tides(1)", "keep(0)", "undo()", "again(0)", "sheet(0, 0, 0, 0)", "years(1, 1)")
                .due("count(10)", 2).due("season()", 1).due("count(10)", 0);
    }

    private static void last() {
        Run.of(Run.WHAT_IT_IS, "An object is used for at most 512 calls after it has been made")
                .doesTimes(510, "tides(60)").due("count(2)", 30600).due("undo()", 14);
    }

    // ---- promise 1

    private static void promise1() {
        Run x = Run.of(1, "No OYSTERS.");
        for (int what = 0; what <= 10; what++) {
            x.due("count(" + what + ")", 0);
        }
        x.row().due("oyster(0, 0)", THROWS).due("undo()", NONE).due("again(0)", 0)
                .due("again(1)", 0).due("again(2)", 0).due("forget()", 0).due("denies()", 0)
                .due("would(0, 9)", 0, 0, 0).due("years(5, 60)", 0, 0, 0).due("line()", 0).row();
    }

    // ---- promise 2

    private static void promise2() {
        String four = "Four signs come behind THE TEXT, of v the highest byte first";
        Run.of(2, four).due("sign(1848979507)", 4).due("oysters()", 1).each(1, 5).each(2, 3);
        // n503 and ;p90; then a third: 2;..
        Run.of(2, four).due("sign(1848979507)", 4).due("sign(997210416)", 8)
                .due("sign(842756657)", 12).due("end(9)", 1).due("oysters()", 2).each(1, 5, 9)
                .each(2, 3, 2);
        // Signs above 127, and sign 0: they are none of the digits or letters.
        Run.of(2, four).due("sign(" + (0x6EB53033) + ")", 4).due("oysters()", -2);
        Run.of(2, four).due("sign(" + (0xEE353033) + ")", 4).due("oysters()", -1);
        Run.of(2, four).due("sign(" + (0x6E350033) + ")", 4).due("oysters()", -3);
        Run.of(2, four).due("sign(" + (0x6E3530B3) + ")", 4).due("oysters()", -4);
        Run.of(2, four).due("sign(0)", 4).due("rule()", -1).due("sign(-1)", 4).due("rule()", -1);
        Run.of(2, "how many it has").due("sign(-1)", 4).due("sign(" + MIN + ")", 8)
                .due("end(1)", 1).due("sign(" + MAX + ")", 5).due("count(10)", 5);
        String most = "Refused: there would be more than 80.";
        Run.of(2, most).doesTimes(18, "sign(0)").due("sign(0)", 76).due("sign(0)", 80)
                .due("sign(0)", NONE).due("count(10)", 80);
        for (int length = 77; length <= 80; length++) {
            String end = "end(" + length + ")";
            Run.of(2, most).text("n1".repeat(40)).due(end, 1).due("sign(1848979507)", NONE)
                    .due("count(10)", length).due("end(60)", 1).due("season()", 30);
            Run.refused(2, most, x -> x.busy().does("end(0)").text("n1".repeat(40)).does(end), NONE,
                    "sign(0)", "sign(-1)");
        }
        Run.of(2, most).text("n1".repeat(40)).due("end(76)", 1).due("sign(0)", 80);
    }

    // ---- promise 3

    private static void promise3() {
        String first = "THE TEXT has its first n signs alone: true";
        Run.of(3, first).text("n503;p902").due("end(9)", 1).due("count(10)", 9)
                .due("oysters()", 2);
        Run.of(3, first).text("n503;p902").due("end(4)", 1).due("count(10)", 4)
                .due("oysters()", 1).each(1, 5);
        Run.of(3, first).text("n503").due("end(0)", 1).due("count(10)", 0).due("oysters()", 0);
        Run.of(3, first).due("end(0)", 1).due("count(10)", 0);
        Run.of(3, first).text("n1".repeat(40)).due("end(80)", 1).due("count(10)", 80)
                .due("end(79)", 1).due("count(10)", 79).due("end(1)", 1).due("count(10)", 1);
        Run.of(3, first).text("n503").due("end(2)", 1).text("15").due("oysters()", 1)
                .each(2, 15);
        String more = "false if it has not so many";
        Run.of(3, more).due("end(1)", 0).text("n503").due("end(5)", 0).due("end(80)", 0)
                .due("end(" + MAX + ")", 0).due("count(10)", 4).due("oysters()", 1)
                .due("end(4)", 0);
        Run.of(3, more).text("n503").due("end(3)", 1).due("end(4)", 0).due("count(10)", 3);
        Run.refused(3, more, 0, "end(8)", "end(81)", "end(" + MAX + ")");
        String below = "or n is below 0";
        Run.of(3, below).due("end(-1)", 0).text("n503").due("end(-1)", 0)
                .due("end(" + MIN + ")", 0).due("count(10)", 4).due("oysters()", 1);
        Run.refused(3, below, 0, "end(-1)", "end(-4)", "end(" + MIN + ")");
    }

    // ---- promise 4

    private static void promise4() {
        Run.of(4, "(an empty one: nothing)").reads("oysters()", "", 0).due("count(0)", 0)
                .with(BEDS).reads("oysters()", "", 0).due("count(0)", 4);
        Run.of(4, "(an empty one: nothing)").with(EIGHT).reads("oysters()", "", 0)
                .due("count(0)", 8);
        Run.onlyTells(4, "(an empty one: nothing)", x -> x.busy().does("end(0)"), "oysters()");
        Run.of(4, "how many LINES").reads("oysters()", "n000", 1).reads("oysters()", "n000;p915", 2)
                .reads("oysters()", "r000;r000;r000;r000;r000", 5).due("count(0)", 8);
        Run.of(4, "THE TEXT tells of OYSTERS").with("n503", "1").does("puts(0, 0)")
                .reads("oysters()", "r915", 1).each(0, 0, 2).each(1, 5, 9).each(2, 3, 15)
                .each(3, 3, 0).each(4, 1, 0).due("count(2)", 0).due("count(3)", 1);
        String nothing = "Nothing of it comes, if a LINE can't.";
        Run.of(4, nothing).reads("oysters()", "n000;p000;r016", -14).due("count(0)", 0)
                .reads("oysters()", "n000;p000;r01", -14).due("count(0)", 0);
        Run.refusedText(4, nothing, "oysters()", "n000;x", -6);
        Run.refusedText(4, nothing, "oysters()", EIGHT, -21);
    }

    private static void lines(String quote, String signs, int at) {
        Run.of(4, quote).reads("oysters()", signs, -1 - at).due("count(0)", 0);
    }

    private static void promise4Faults() {
        String stand = "the sign at p can't stand there";
        String[] wrong = {"x000", "nx00", "n0x0", "n00x", "n000x", "n000;x000", "n000;nx00",
            "n000;n0x0", "n000;n00x", "n000;n000x", "N000", "n000,", "n0000", "000", ";", "n;",
            "n0;", "n00;", "n000;;", "nn00", "n000n000", "n 00", "n-10"};
        int[] at = {0, 1, 2, 3, 4, 5, 6, 7, 8, 9, 0, 4, 4, 0, 0, 1, 2, 3, 5, 1, 4, 1, 1};
        for (int i = 0; i < wrong.length; i++) {
            lines(stand, wrong[i], at[i]);
        }
        String end = "its end, if it ends too early";
        for (int length = 1; length < EIGHT.length(); length++) {
            if (length % 5 != 4) {
                lines(end, EIGHT.substring(0, length), length);
            }
        }
        lines(end, "n01", 3);
        lines(end, "n02", 3);
        lines(end, "n09", 3);
        String above = "a VIEW above 15: at its second digit";
        for (String view : new String[] {"16", "17", "19", "20", "25", "90", "99"}) {
            lines(above, "n0" + view, 3);
            lines(above, "n000;p0" + view, 8);
        }
        lines(above, "n02x", 3);
        lines(above, EIGHT.substring(0, 37) + "16", 38);
        Run.of(4, above).reads("oysters()", "n015;n010;n009;n000", 4).each(2, 15, 10, 9, 0);
    }

    private static void promise4Room() {
        String room = "the first sign of a LINE for which there is no room";
        Run full = Run.of(4, room).with(EIGHT);
        full.reads("oysters()", "n000", -1).reads("oysters()", "n", -1).reads("oysters()", "x", -1)
                .reads("oysters()", EIGHT + ";", -1).due("count(0)", 8);
        Run seven = Run.of(4, room).with(EIGHT.substring(0, 34));
        seven.due("count(0)", 7).reads("oysters()", "n000;n000", -6)
                .reads("oysters()", "n000;n", -6).reads("oysters()", "n000;x", -6)
                .reads("oysters()", "n000;", -6).reads("oysters()", "n016;n000", -4)
                .due("count(0)", 7).reads("oysters()", "n000", 1).due("count(0)", 8);
        Run one = Run.of(4, room).with("n000");
        one.reads("oysters()", EIGHT, -36).reads("oysters()", EIGHT + ";", -36)
                .reads("oysters()", EIGHT.substring(0, 35), -36).due("count(0)", 1)
                .reads("oysters()", EIGHT.substring(0, 34), 7).due("count(0)", 8);
        String more = "39, if it has more and the first 39 could go on or end";
        lines(more, EIGHT + ";", 39);
        lines(more, EIGHT + "x", 39);
        lines(more, EIGHT + ";n", 39);
        lines(more, EIGHT + ";n000", 39);
        lines(more, (EIGHT + ";" + EIGHT).substring(0, 79), 39);
        lines(more, EIGHT + ";" + EIGHT + ";", 39);
        lines(more, EIGHT.substring(0, 38) + "x;", 38);
        lines(more, EIGHT.substring(0, 37) + "16;", 38);
        lines(more, "x" + EIGHT, 0);
        Run.of(4, more).reads("oysters()", EIGHT, 8);
    }

    // ---- promise 5

    private static void promise5() {
        Run.of(5, "(an empty one: none): 0").with("n801;n901", "0").due("would(0, 0)", 0)
                .reads("rule()", "", 0).due("would(0, 0)", 1, 1, 1).due("would(0, 1)", 2, 3, 2)
                .due("would(1, 9)", 1, 1, 0);
        Run.of(5, "THE TEXT is THE RULE").with("n801;n901", "f=9").due("would(0, 0)", 1, 2, 1)
                .reads("rule()", "f=8", 0).due("would(0, 0)", 1, 1, 1).due("puts(0, 0)", 1, 1, 2);
        Run.alike(5, "THE TEXT is THE RULE", x -> x.busy().does("end(0)"),
                x -> x.reads("rule()", "v*9-f+w-p", 0), x -> x);
    }

    private static void promise5Faults() {
        String stand = "the sign at p can't stand there";
        fault5(stand, "x", 0);
        fault5(stand, "1x", 1);
        fault5(stand, "1+2x", 3);
        fault5(stand, "-".repeat(39) + "x", 39);
        fault5(stand, "-".repeat(39) + ")", 39);
        fault5(stand, "f+".repeat(19) + "f)", 39);
        String end = "its end, if it ends too early";
        String[] early = {"-", "(", "1+", "1-", "1*", "1/", "1<", "1>", "1=", "(1", "((1)", "(1+",
            "((((1)))", "1+(", "f-", "--", "-(", "(((("};
        for (String signs : early) {
            fault5(end, signs, signs.length());
        }
        fault5(end, "-".repeat(40), 40);
        fault5(end, "f+".repeat(20), 40);
        fault5(end, "(" + "f+".repeat(19) + "f", 40);
        String more = "40, if it has more and the first 40 could go on or end";
        fault5(more, "-".repeat(41), 40);
        fault5(more, "-".repeat(40) + "1", 40);
        fault5(more, "-".repeat(80), 40);
        fault5(more, "f+".repeat(20) + "f", 40);
        fault5(more, "f+".repeat(19) + "12+1", 40);
        fault5(more, "f+".repeat(19) + "12x", 40);
        fault5(more, "(" + "f+".repeat(19) + "f)", 40);
        fault5(more, "f+".repeat(18) + "f+123", 40);
        fault5(more, "-".repeat(39) + "x1", 39);
        fault5(more, "x" + "-".repeat(60), 0);
        fault5(more, "f<f<" + "-".repeat(40), 3);
        Run.of(5, more).with("n000").reads("rule()", "-".repeat(38) + "12", 0)
                .due("would(0, 0)", 1);
        Run often = Run.of(5, stand).with("n000");
        for (int i = 0; i < 40; i++) {
            often.reads("rule()", "((((", -5);
        }
        often.reads("rule()", "-(1-(2-(3-(4))))*(1+1)=4", 0).due("would(0, 0)", 1);
        Run.refusedText(5, more, "rule()", "-".repeat(40) + "1", -41);
        Run.refusedText(5, end, "rule()", "1+", -3);
        Run.refusedText(5, stand, "rule()", "f)", -2);
    }

    private static void fault5(String quote, String signs, int at) {
        Run.of(5, quote).with("n000", "1").reads("rule()", signs, -1 - at).due("would(0, 0)", 1);
        Run.of(47, "-100000 - p: the sign at p can't stand there (as rule())")
                .with("n000", "1").does("later(0)").reads("law()", signs, -100000 - at).row(1)
                .due("would(0, 0)", 1);
    }

    // ---- promise 6

    private static void promise6() {
        String what = "what 0: KIND, 1: FEAR, 2: VIEW, 3: SHUT, 4: PEARL";
        Run x = Run.of(6, what).with("p915;r315", "f=9").does("puts(0, 0)", "tides(1)");
        x.due("oyster(0, 0)", 1).due("oyster(0, 1)", 9).due("oyster(0, 2)", 15)
                .due("oyster(0, 3)", 4).due("oyster(0, 4)", 1);
        String wrong = "NoSuchElementException: none such, another what.";
        Run y = Run.of(6, wrong).with(BEDS).due("oyster(0, 0)", 0).due("oyster(3, 4)", 0);
        for (String call : new String[] {"oyster(-1, 0)", "oyster(4, 0)", "oyster(4, 4)",
            "oyster(7, 0)", "oyster(8, 0)", "oyster(" + MIN + ", 0)", "oyster(" + MAX + ", 0)",
            "oyster(0, -1)", "oyster(0, 5)", "oyster(3, 5)", "oyster(0, " + MIN + ")",
            "oyster(0, " + MAX + ")", "oyster(-1, -1)", "oyster(4, 5)"}) {
            y.due(call, THROWS);
        }
        Run.of(6, wrong).due("oyster(0, 0)", THROWS).due("oyster(-1, 0)", THROWS)
                .due("oyster(0, 5)", THROWS);
        Run.of(6, wrong).with(EIGHT).due("oyster(7, 4)", 0).due("oyster(8, 4)", THROWS)
                .due("oyster(-1, 4)", THROWS);
    }

    // ---- promise 7

    private static void sheet(String quote, String call, long answer, long... fears) {
        Run.of(7, quote).with(BEDS).due(call, answer).each(1, fears).due("count(8)", 0);
    }

    private static void promise7() {
        String as = "FEARS of OYSTERS 0, 1, .., as a sheet tells them";
        sheet(as, "sheet(0, 4, 1, 2)", 16, 1, 3, 5, 7);
        sheet(as, "sheet(1, 4, 9, -3)", 18, 9, 6, 3, 0);
        sheet(as, "sheet(2, 4, 9, 0)", 36, 9, 9, 9, 9);
        String n = "of n entries f, f + step, ..";
        sheet(n, "sheet(2, 3, 2, 1)", 9, 2, 3, 4, 0);
        sheet(n, "sheet(2, 1, 2, 1)", 2, 2, 0, 0, 0);
        sheet(n, "sheet(2, 0, 2, 1)", 0, 0, 0, 0, 0);
        sheet(n, "sheet(2, 8, 2, 1)", 14, 2, 3, 4, 5);
        sheet(n, "sheet(2, 5, 2, 1)", 14, 2, 3, 4, 5);
        Run.of(7, n).with(EIGHT).due("sheet(2, 8, 1, 1)", 36).each(1, 1, 2, 3, 4, 5, 6, 7, 8)
                .due("sheet(0, 7, 9, 0)", 63).each(1, 9, 9, 9, 9, 9, 9, 9, 0);
        Run.of(7, n).due("sheet(2, 8, 9, 0)", 0).due("sheet(0, 0, 9, 0)", 0);
        String behind = "those behind it have 0: the sum of all";
        sheet(behind, "sheet(0, 2, 9, 0)", 18, 9, 9, 0, 0);
        sheet(behind, "sheet(1, 3, 9, 0)", 27, 9, 9, 9, 0);
        sheet(behind, "sheet(0, 0, 9, 0)", 0, 0, 0, 0, 0);
        String undo = "Can't be undone.";
        Run.of(7, undo).with(BEDS).due("sheet(2, 4, 7, 0)", 28).due("count(8)", 0)
                .due("undo()", NONE).each(1, 7, 7, 7, 7);
        Run.of(7, undo).with(BEDS).does("tides(1)").due("sheet(2, 4, 7, 0)", 28)
                .due("count(8)", 1).does("tides(1)").due("sheet(2, 4, 8, 0)", 32)
                .due("undo()", 1).each(1, 7, 7, 7, 7).due("undo()", 0).each(1, 5, 9, 1, 4);
    }

    private static void promise7Entries() {
        String low = "(of bytes, shorts the lowest bits, with their sign; put to 0 .. 9)";
        sheet(low, "sheet(0, 4, 126, 1)", 18, 9, 9, 0, 0);
        sheet(low, "sheet(0, 4, 254, 1)", 1, 0, 0, 0, 1);
        sheet(low, "sheet(0, 4, -258, 1)", 1, 0, 0, 0, 1);
        sheet(low, "sheet(0, 4, 264, 1)", 35, 8, 9, 9, 9);
        sheet(low, "sheet(0, 4, 65536, 0)", 0, 0, 0, 0, 0);
        sheet(low, "sheet(1, 4, 32766, 1)", 18, 9, 9, 0, 0);
        sheet(low, "sheet(1, 4, 65534, 1)", 1, 0, 0, 0, 1);
        sheet(low, "sheet(1, 4, 257, -127)", 21, 9, 9, 3, 0);
        sheet(low, "sheet(1, 4, 65536, 1)", 6, 0, 1, 2, 3);
        sheet(low, "sheet(2, 4, 65536, 0)", 36, 9, 9, 9, 9);
        String bounds = "put to 0 .. 9";
        for (int kind = 0; kind < 3; kind++) {
            sheet(bounds, "sheet(" + kind + ", 4, 8, 1)", 35, 8, 9, 9, 9);
            sheet(bounds, "sheet(" + kind + ", 4, 2, -1)", 3, 2, 1, 0, 0);
            sheet(bounds, "sheet(" + kind + ", 4, -100, 50)", 9, 0, 0, 0, 9);
        }
        // Entries are ints, and go round as they do.
        String round = "f, f + step, ..";
        sheet(round, "sheet(2, 4, 2147483646, 1)", 18, 9, 9, 0, 0);
        sheet(round, "sheet(2, 4, " + MIN + ", -1)", 27, 0, 9, 9, 9);
        sheet(round, "sheet(2, 4, 0, 1073741824)", 9, 0, 9, 0, 0);
        sheet(round, "sheet(1, 4, " + MAX + ", " + MIN + ")", 0, 0, 0, 0, 0);
    }

    private static void promise7Refused() {
        String below = "-2: n below 0 (of kinds 0 .. 2; nothing changes)";
        Run.refused(7, below, -2, "sheet(0, -1, 5, 5)", "sheet(1, -1, 5, 5)", "sheet(2, -1, 5, 5)",
                "sheet(2, " + MIN + ", 5, 5)");
        String missing = "-3: missing (all 0)";
        sheet(missing, "sheet(3, 4, 5, 5)", -3, 0, 0, 0, 0);
        sheet(missing, "sheet(3, 0, 5, 5)", -3, 0, 0, 0, 0);
        sheet(missing, "sheet(3, 8, 5, 5)", -3, 0, 0, 0, 0);
        sheet(missing, "sheet(3, -1, 5, 5)", -3, 0, 0, 0, 0);
        sheet(missing, "sheet(3, " + MIN + ", 5, 5)", -3, 0, 0, 0, 0);
        Run.of(7, missing).due("sheet(3, 0, 0, 0)", -3);
        String first = "NONE: another kind, n above 8 (these first)";
        Run.refused(7, first, NONE, "sheet(-1, 0, 5, 5)", "sheet(4, 0, 5, 5)",
                "sheet(-1, -1, 5, 5)", "sheet(4, -1, 5, 5)", "sheet(" + MIN + ", 1, 5, 5)",
                "sheet(" + MAX + ", 1, 5, 5)", "sheet(0, 9, 5, 5)", "sheet(1, 9, 5, 5)",
                "sheet(2, 9, 5, 5)", "sheet(3, 9, 5, 5)", "sheet(2, " + MAX + ", 5, 5)");
        Run.of(7, first).with(BEDS).due("sheet(0, 8, 1, 0)", 4).due("sheet(2, 8, 1, 0)", 4)
                .due("sheet(3, 8, 1, 0)", -3);
    }
}
