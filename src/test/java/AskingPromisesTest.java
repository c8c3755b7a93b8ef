/** Promises 15 to 49: what is asked of this machine, and what was seen and heard. */
public final class AskingPromisesTest {
    private static final String BEDS = "n503;p902;r107;n401";
    private static final Checks CHECKS = new Checks();

    public static void main(String[] args) {
        promise15();
        promise16();
        promise17();
        promise18And19();
        promise20();
        promises21To24();
        promise25();
        promises26And27();
        promises28And29();
        promises30And31();
        promises32And33();
        promises34And35();
        promises36And37();
        promise38();
        promise39();
        promises40And41();
        promises42And43();
        promise44();
        promise45();
        promise46();
        promise47();
        promise48();
        promise49();
        CHECKS.end();
    }

    private static void due(String call, long got, long want) {
        CHECKS.due(call, got, want);
    }

    /** The answer, and the ROW behind it. */
    private static void told(OysterBeds x, String call, long got, long want, long... row) {
        due(call, got, want);
        CHECKS.row(call, x, row);
    }

    /** After puts(0, 0): SHUT 3, 0, 1, 3; the ROW 13, 2. */
    private static OysterBeds asked() {
        OysterBeds x = Checks.with(BEDS);
        x.puts(0, 0);
        return x;
    }

    private static void promise15() {
        OysterBeds x = Checks.with(BEDS);
        told(x, "15: would(0, 0)", x.would(0, 0), 3, 13, 3);
        told(x, "15: would(1, 0)", x.would(1, 0), 2, 5, 2);
        told(x, "15: would(1, 1)", x.would(1, 1), 3, 7, 3);
        told(x, "15: would(3, 2)", x.would(3, 2), 1, 4, 0);
        told(x, "15: would(3, 9)", x.would(3, 9), 3, 13, 0);
        int[][] wrong = {{4, 0}, {-1, 0}, {0, 10}, {0, -1}};
        for (int[] w : wrong) {
            told(x, "15: would wrong", x.would(w[0], w[1]), -1, 13, 0);
        }
        due("15: nothing is asked", x.count(3), 0);
        due("15: all stay open", x.count(1), 15);
        due("15: nothing to undo", x.count(8), 0);
        OysterBeds shut = asked();
        told(shut, "15: only open ones", shut.would(0, 9), 0, 0, 0);
        told(shut, "15: only open ones", shut.would(1, 9), 1, 2, 1);
    }

    private static void promise16() {
        OysterBeds x = Checks.with(BEDS);
        told(x, "16: words(1, 3)", x.words(1, 3), 1, 4, 7);
        told(x, "16: words(1, 2)", x.words(1, 2), 0, 1, 5);
        told(x, "16: words(1, 4)", x.words(1, 4), 5, 5, 15);
        told(x, "16: words(1, 0)", x.words(1, 0), -2, 5, 15);
        told(x, "16: words(0, 3)", x.words(0, 3), 0, 10, 13);
        told(x, "16: words(0, 8)", x.words(0, 8), -2, 10, 13);
        int[][] wrong = {{4, 0}, {-1, 0}, {0, 9}, {0, -1}, {4, 9}};
        for (int[] w : wrong) {
            told(x, "16: words wrong", x.words(w[0], w[1]), -1, 10, 13);
        }
    }

    private static void promise17() {
        OysterBeds x = Checks.with(BEDS);
        // Topic 0: 10 wordings; 1: those from 1 to 4; 2: 0, 1 (O2 alone; O3 from 5);
        // so 0..4; 3, that none holds: 0 and 1.
        told(x, "17: honest()", x.honest(), 0, 21);
        Checks.rule(x, "0");
        told(x, "17: none closes", x.honest(), 30, 10);
        Checks.rule(x, "v*(w=7)");
        told(x, "17: by one wording", x.honest(), 7, 13);
        OysterBeds one = Checks.with("n001", "v*(w=7)+(v=0)");
        told(one, "17: just one", one.honest(), 7, 1);
        OysterBeds none = Checks.with("n000", "1");
        none.later(0);
        told(none, "17: there is none", none.honest(), -2, 1);
        none.puts(0, 0);
        told(none, "17: all are shut", none.honest(), 0, 40);
    }

    private static void promise18And19() {
        OysterBeds x = Checks.with(BEDS);
        told(x, "18: shyest(0, 0)", x.shyest(0, 0), 0, 2, 0, 1);
        told(x, "18: shyest(3, 2)", x.shyest(3, 2), 2, 0, 0, 1);
        told(x, "18: shyest(4, 0)", x.shyest(4, 0), -1, 0, 0, 1);
        told(x, "18: shyest(0, 10)", x.shyest(0, 10), -1, 0, 0, 1);
        told(x, "18: shyest(0, -1)", x.shyest(0, -1), -1, 0, 0, 1);
        told(x, "19: loudest()", x.loudest(), 15, 4, 0);
        OysterBeds two = Checks.with("r000;p000", "1");
        told(two, "18: of equal ones", two.shyest(0, 0), 1, 0, 1, 1);
        told(two, "19: of equal ones", two.loudest(), 0, 2, 2);
        Checks.rule(two, "0");
        told(two, "18: none", two.shyest(0, 0), 0, 0, 0, 0);
        told(two, "19: none", two.loudest(), 0, 0, 0);
        Checks.rule(two, "w=3");
        told(two, "19: by one", two.loudest(), 3, 2, 0);
    }

    private static void promise20() {
        OysterBeds x = Checks.with(BEDS);
        told(x, "20: thrice", x.repeats(0, 0, 3), 5, 3, 1, 1);
        told(x, "20: once", x.repeats(3, 9, 1), 3, 3);
        told(x, "20: often", x.repeats(0, 0, 20), 34, 3, 1, 1, 3, 1, 1, 3, 1, 1, 3, 1, 1);
        due("20: none is asked", x.count(3), 0);
        due("20: no tide goes by", x.count(2), 0);
        due("20: all stay open", x.count(1), 15);
        due("20: no pearls", x.count(4), 0);
        int[][] wrong = {{0, 0, 0}, {0, 0, 21}, {4, 0, 1}, {0, 10, 1}, {-1, 0, 1}, {0, -1, 1}};
        x.later(0);
        for (int[] w : wrong) {
            told(x, "20: wrong", x.repeats(w[0], w[1], w[2]), -1, 4);
        }
        Checks.rule(x, "n<2");
        told(x, "20: by tides", x.repeats(0, 0, 9), 10, 4, 1, 0, 0, 0, 0, 0, 4, 1);
    }

    private static void promises21To24() {
        OysterBeds x = asked();
        told(x, "21: later(0)", x.later(0), 2, 1);
        told(x, "21: later(1)", x.later(1), 6, 2);
        told(x, "21: later(2)", x.later(2), 6, 2);
        told(x, "21: later(3)", x.later(3), 15, 4);
        told(x, "21: later(99)", x.later(99), 15, 4);
        told(x, "21: later(100)", x.later(100), -1, 4);
        told(x, "21: later(-1)", x.later(-1), -1, 4);
        told(x, "22: calm()", x.calm(), 3, 4);
        told(x, "23: opens(0)", x.opens(0), 0, 2);
        told(x, "23: opens(1)", x.opens(1), 0, 2);
        told(x, "23: opens(2)", x.opens(2), 1, 6);
        told(x, "23: opens(3)", x.opens(3), 3, 15);
        told(x, "23: opens(4)", x.opens(4), 3, 15);
        told(x, "23: opens(5)", x.opens(5), -2, 15);
        told(x, "23: opens(8)", x.opens(8), -2, 15);
        told(x, "23: opens(9)", x.opens(9), -1, 15);
        told(x, "23: opens(-1)", x.opens(-1), -1, 15);
        told(x, "24: line()", x.line(), 4, 1, 2, 0, 3);
        due("21: no tide goes by", x.count(2), 0);
        x.tides(3);
        due("22: all open", x.calm(), 0);
        told(x, "24: all open", x.line(), 4, 0, 1, 2, 3);
        OysterBeds none = new OysterBeds();
        told(none, "24: none", none.line(), 0);
        due("22: none", none.calm(), 0);
        told(none, "23: none", none.opens(0), 0, 0);
    }

    private static void promise25() {
        OysterBeds x = asked();
        told(x, "25: yes(0)", x.yes(0), 3, 0, 2, 0, 1);
        told(x, "25: yes(1)", x.yes(1), 3, 1, 1, 1, 1);
        told(x, "25: yes(2)", x.yes(2), 1, 0, 0, 0, 1);
        told(x, "25: yes(3)", x.yes(3), 0, 0, 0, 0, 0);
        told(x, "25: yes(4)", x.yes(4), -1, 0, 0, 0, 0);
        told(x, "25: yes(-1)", x.yes(-1), -1, 0, 0, 0, 0);
    }

    private static void promises26And27() {
        OysterBeds x = Checks.with(BEDS);
        told(x, "26: whole()", x.whole(), 3, 1, 0);
        told(x, "27: middle()", x.middle(), 3, 3, 1);
        OysterBeds two = Checks.with("n001;n003");
        told(two, "26: as many", two.whole(), 1, 1, 1);
        told(two, "27: of equal ones", two.middle(), 1, 1, 1);
        OysterBeds far = Checks.with("n000;n015");
        told(far, "26: all as many", far.whole(), 0, 1, 4);
        told(far, "27: all equal", far.middle(), 0, 4, 4);
        OysterBeds three = Checks.with("n115;n215;n000");
        told(three, "26: two of three", three.whole(), 15, 2, 0);
        told(three, "27: two of three", three.middle(), 15, 4, 4);
        OysterBeds none = new OysterBeds();
        told(none, "26: none", none.whole(), 0, 0, 4);
        told(none, "27: none", none.middle(), 0, 0, 0);
    }

    private static void promises28And29() {
        OysterBeds x = Checks.with(BEDS);
        told(x, "28: nearest()", x.nearest(), 1, 0, 1);
        told(x, "29: sorts()", x.sorts(), 4, 1);
        OysterBeds five = Checks.with("n003;n012;p103;n012;n001");
        told(five, "28: alike", five.nearest(), 0, 0, 2);
        told(five, "29: two and two", five.sorts(), 3, 5);
        OysterBeds four = Checks.with("n003;n012;n012;n003");
        told(four, "28: the least row", four.nearest(), 0, 0, 3);
        told(four, "29: with the least oyster", four.sorts(), 2, 9);
        OysterBeds later = Checks.with("n000;n001;n001");
        told(later, "29: the larger", later.sorts(), 2, 6);
        OysterBeds far = Checks.with("n000;n015");
        told(far, "28: as far as can be", far.nearest(), 4, 0, 1);
        OysterBeds one = Checks.with("n000");
        one.later(0);
        told(one, "28: fewer than two", one.nearest(), -2, 1);
        OysterBeds none = new OysterBeds();
        none.later(0);
        told(none, "28: none", none.nearest(), -2, 0);
        told(none, "29: none", none.sorts(), 0);
    }

    private static void promises30And31() {
        OysterBeds x = Checks.with(BEDS);
        told(x, "30: tells()", x.tells(), 3, 7);
        told(x, "31: jury()", x.jury(), 1, 1);
        OysterBeds two = Checks.with("n000;n006");
        told(two, "30: the least", two.tells(), 1, 2);
        OysterBeds alike = Checks.with("n005;n005");
        told(alike, "30: all alike", alike.tells(), 0, 0);
        OysterBeds all = Checks.with("n000;n001;n002;n004;n008");
        told(all, "30: all four", all.tells(), 4, 15);
        told(all, "31: one of none", all.jury(), 1, 1);
        OysterBeds three = Checks.with("n001;n002;n004");
        told(three, "31: three", three.jury(), 3, 7);
        OysterBeds four = Checks.with("n015;n001;n002;n004");
        told(four, "31: not of four", four.jury(), 3, 14);
        OysterBeds pair = Checks.with("n001;n002");
        pair.later(0);
        told(pair, "31: by none", pair.jury(), -2, 2);
        OysterBeds none = new OysterBeds();
        told(none, "30: none", none.tells(), 0, 0);
        told(none, "31: none", none.jury(), -2, 0);
    }

    private static void promises32And33() {
        OysterBeds x = Checks.with(BEDS);
        told(x, "32: power(0)", x.power(0), 0, 1, 2);
        told(x, "32: power(1)", x.power(1), 0, 0, 1);
        told(x, "32: power(2)", x.power(2), 0, 1, 2);
        told(x, "33: pivots(1)", x.pivots(1), 0, 0, 1);
        told(x, "33: pivots(2)", x.pivots(2), 0, 1, 3);
        OysterBeds three = Checks.with("n800;n900;n900");
        told(three, "32: two to one", three.power(0), 0, 3, 4);
        told(three, "32: one of two", three.power(1), 0, 1, 4);
        told(three, "33: two to one", three.pivots(0), 0, 2, 3);
        told(three, "33: one of two", three.pivots(2), 0, 1, 6);
        OysterBeds one = Checks.with("n900");
        told(one, "32: alone", one.power(0), 0, 1, 1);
        told(one, "33: alone", one.pivots(0), 0, 1, 1);
        OysterBeds eight = Checks.with("n000;n000;n000;n000;n000;n000;n000;n000");
        told(eight, "32: of eight", eight.power(7), 0, 35, 128);
        told(eight, "33: of eight", eight.pivots(7), 0, 1, 8);
        int[] wrong = {4, -1, 8, Integer.MIN_VALUE};
        x.later(0);
        for (int w : wrong) {
            told(x, "32: power(" + w + ")", x.power(w), -1, 4);
            told(x, "33: pivots(" + w + ")", x.pivots(w), -1, 4);
        }
    }

    private static void promises34And35() {
        OysterBeds x = Checks.with(BEDS);
        told(x, "34: rules()", x.rules(), 2, 5, 3);
        told(x, "35: parties()", x.parties(), 1, 6, 10);
        OysterBeds one = Checks.with("n300");
        told(one, "34: alone", one.rules(), 1, 1, 4);
        told(one, "35: alone", one.parties(), 7, 0, 0);
        OysterBeds two = Checks.with("n005;n010");
        told(two, "34: half is not enough", two.rules(), 2, 3, 0);
        told(two, "35: like ones", two.parties(), 0, 1, 10);
        OysterBeds three = Checks.with("n903;n907;n003");
        told(three, "34: the bold one", three.rules(), 1, 4, 4);
        told(three, "35: the bold one", three.parties(), 8, 3, 2);
        OysterBeds none = new OysterBeds();
        none.later(0);
        told(none, "34: none", none.rules(), -2, 0);
        told(none, "35: none", none.parties(), 0, 0, 0);
    }

    private static void promises36And37() {
        OysterBeds x = Checks.with(BEDS);
        int[][] wrong = {{4, 0, 0}, {-1, 0, 0}, {0, 10, 0}, {0, -1, 0}, {0, 0, 9}, {0, 0, -1}};
        for (int[] w : wrong) {
            due("36: seen wrong", x.seen(w[0], w[1], w[2]), -1);
        }
        for (int i = 1; i <= 10; i++) {
            due("36: seen " + i, x.seen(3, 9, 8), i);
        }
        due("36: seen 11", x.seen(3, 9, 8), -1);
        due("36: ten", x.count(6), 10);
        due("37: forget()", x.forget(), 10);
        due("37: forgotten", x.count(6), 0);
        due("37: forget() again", x.forget(), 0);
        told(x, "37: all can be", x.cares(0), 65535, 16, 0, 15);
    }

    private static void promise38() {
        OysterBeds x = Checks.with(BEDS);
        told(x, "38: nothing seen", x.cares(1), 65535, 16, 0, 15);
        x.seen(1, 1, 3);
        told(x, "38: it holds yes of 1", x.cares(1), 0xCCCC, 8, 2, 15);
        told(x, "38: so does the third", x.cares(0), 0xCCCC, 8, 2, 15);
        told(x, "38: the last does not", x.cares(3), 0x3333, 8, 0, 13);
        x.seen(0, 1, 3);
        told(x, "38: it does not of 0", x.cares(1), 0x4444, 4, 2, 14);
        x.puts(2, 0);
        told(x, "38: as all is then", x.cares(1), 0, 0);
        x.undo();
        x.seen(0, 1, 0);
        told(x, "38: it can't be", x.cares(1), 0, 0);
        told(x, "38: cares(4)", x.cares(4), -1, 0);
        told(x, "38: cares(-1)", x.cares(-1), -1, 0);
        OysterBeds shut = asked();
        shut.seen(2, 0, 0);
        told(shut, "38: a shut one", shut.cares(0), 65535, 16, 0, 15);
        due("38: the view stays", shut.oyster(0, 2), 3);
        OysterBeds one = Checks.with("n000", "v=1");
        one.seen(3, 0, 1);
        told(one, "38: v is 1", one.cares(0), 0xFF00, 8, 8, 15);
        one.seen(0, 0, 0);
        told(one, "38: v is 0", one.cares(0), 0x5500, 4, 8, 14);
        one.seen(2, 0, 2);
        told(one, "38: it is but one", one.cares(0), 0, 0);
    }

    private static void promise39() {
        OysterBeds x = Checks.with(BEDS);
        told(x, "39: next(1)", x.next(1), 1, 8);
        told(x, "39: next(0)", x.next(0), 0, 8);
        x.seen(0, 1, 3);
        told(x, "39: not of what is known", x.next(1), 11, 4);
        x.seen(1, 1, 3);
        told(x, "39: two more", x.next(1), 21, 2);
        x.seen(2, 1, 2);
        told(x, "39: one more", x.next(1), 31, 1);
        x.seen(3, 1, 1);
        told(x, "39: it is known", x.cares(1), 1 << 14, 1, 14, 14);
        told(x, "39: it is known", x.next(1), 0, 1);
        x.seen(3, 1, 0);
        told(x, "39: none is left", x.next(1), -2, 1);
        told(x, "39: next(4)", x.next(4), -1, 1);
        told(x, "39: next(-1)", x.next(-1), -1, 1);
        OysterBeds shut = asked();
        told(shut, "39: a shut one", shut.next(0), 0, 16);
    }

    private static void promises40And41() {
        OysterBeds x = Checks.with(BEDS);
        int[][] wrong = {{0, 3}, {0, -1}, {1, 10}, {2, 4}, {3, 2}, {3, -1}, {4, 10}, {4, -1},
            {5, 0}, {-1, 0}};
        for (int[] w : wrong) {
            due("40: heard(" + w[0] + ", " + w[1] + ")", x.heard(w[0], w[1]), -1);
        }
        int[][] right = {{0, 0}, {0, 2}, {1, 0}, {1, 9}, {2, 0}, {2, 3}, {3, 0}, {3, 1}, {4, 0},
            {4, 9}, {4, 9}, {4, 9}};
        for (int i = 0; i < right.length; i++) {
            due("40: heard " + i, x.heard(right[i][0], right[i][1]), i + 1);
        }
        due("40: the 13th", x.heard(0, 0), -1);
        due("40: twelve", x.count(7), 12);
        due("41: denies()", x.denies(), 12);
        due("41: denied", x.count(7), 0);
        due("41: denies() again", x.denies(), 0);
        told(x, "41: all fit", x.fits(), 15, 4);
    }

    private static void fit(OysterBeds x, int what, int v, int want) {
        x.denies();
        x.heard(what, v);
        told(x, "42: heard(" + what + ", " + v + ")", x.fits(), want, Integer.bitCount(want));
    }

    private static void promises42And43() {
        OysterBeds x = asked();
        fit(x, 0, 0, 9);
        fit(x, 0, 1, 2);
        fit(x, 1, 0, 15);
        fit(x, 1, 5, 3);
        fit(x, 1, 9, 2);
        fit(x, 2, 0, 13);
        fit(x, 2, 2, 4);
        fit(x, 3, 1, 2);
        fit(x, 3, 0, 13);
        fit(x, 4, 0, 15);
        fit(x, 4, 1, 13);
        fit(x, 4, 2, 0);
        told(x, "43: none fits", x.asks(), -2, 0);
        x.denies();
        x.heard(1, 4);
        x.heard(2, 0);
        told(x, "42: both", x.fits(), 9, 2);
        told(x, "43: of two", x.asks(), 15, 1);
        x.denies();
        told(x, "43: of four", x.asks(), 0, 2);
        x.heard(0, 2);
        told(x, "43: of one", x.asks(), 0, 1);
        OysterBeds pearls = Checks.with("n000;n000", "w=f");
        pearls.stills(1, 1);
        pearls.puts(0, 0);
        pearls.tides(1);
        pearls.stills(1, 0);
        told(pearls, "43: by pearls", pearls.asks(), 41, 1);
        pearls.heard(4, 1);
        told(pearls, "42: by pearls", pearls.fits(), 1, 1);
        pearls.denies();
        pearls.puts(0, 0);
        pearls.tides(1);
        pearls.stills(1, 1);
        pearls.puts(0, 0);
        pearls.tides(1);
        pearls.stills(1, 0);
        told(pearls, "43: by two pearls", pearls.asks(), 42, 1);
        OysterBeds eight = Checks.with("n000;n000;n000;n000;n000;n000;n000;n000");
        told(eight, "43: all alike", eight.asks(), 0, 8);
        OysterBeds fears = Checks.with("n800;n900");
        told(fears, "43: by fear", fears.asks(), 19, 1);
        OysterBeds views = Checks.with("n008;n000");
        told(views, "43: by view", views.asks(), 23, 1);
        OysterBeds kinds = Checks.with("p000;r000");
        told(kinds, "43: by kind", kinds.asks(), 1, 1);
        OysterBeds open = Checks.with("n000;n000", "w=f");
        open.stills(1, 1);
        open.puts(0, 0);
        open.stills(1, 0);
        told(open, "43: by who is open", open.asks(), 30, 1);
    }

    private static void promise44() {
        OysterBeds x = Checks.with(BEDS);
        told(x, "44: no slips", x.slips(0, 0, 0, 3), 0, 1, 1);
        told(x, "44: no slips", x.slips(0, 0, 0, 2), 0, 0, 1);
        told(x, "44: all slip", x.slips(0, 0, 10, 1), 0, 1, 1);
        told(x, "44: even", x.slips(0, 0, 5, 2), 0, 3, 8);
        told(x, "44: a few", x.slips(0, 0, 1, 3), 0, 1701, 2500);
        told(x, "44: more than there are", x.slips(0, 0, 1, 8), 0, 0, 1);
        x.puts(0, 0);
        told(x, "44: open ones alone", x.slips(0, 0, 3, 1), 0, 3, 10);
        told(x, "44: open ones alone", x.slips(0, 0, 3, 0), 0, 7, 10);
        int[][] wrong = {{4, 0, 0, 0}, {-1, 0, 0, 0}, {0, 10, 0, 0}, {0, -1, 0, 0}, {0, 0, 11, 0},
            {0, 0, -1, 0}, {0, 0, 0, 9}, {0, 0, 0, -1}};
        for (int[] w : wrong) {
            told(x, "44: wrong", x.slips(w[0], w[1], w[2], w[3]), -1, 7, 10);
        }
        due("44: none is asked", x.count(3), 1);
        OysterBeds none = new OysterBeds();
        told(none, "44: none", none.slips(0, 0, 5, 0), 0, 1, 1);
        told(none, "44: none", none.slips(0, 0, 5, 1), 0, 0, 1);
    }

    private static void promise45() {
        OysterBeds x = new OysterBeds();
        told(x, "45: one", x.sound(5, 8, 2, 1, 1), 0, 4, 5);
        told(x, "45: one open", x.sound(5, 8, 2, 1, 0), 0, 1, 5);
        told(x, "45: it tells nothing", x.sound(3, 5, 5, 8, 4), 0, 3, 10);
        told(x, "45: two of three", x.sound(5, 9, 1, 3, 2), 0, 9, 10);
        told(x, "45: no oysters", x.sound(4, 9, 1, 0, 0), 0, 2, 5);
        told(x, "45: never so", x.sound(0, 5, 5, 2, 1), 0, 0, 1);
        told(x, "45: always so", x.sound(10, 5, 5, 2, 1), 0, 1, 1);
        told(x, "45: all of eight", x.sound(5, 10, 9, 8, 8), 0, 100000000L, 143046721L);
        told(x, "45: it can't be", x.sound(10, 0, 5, 1, 1), -2, 100000000L, 143046721L);
        told(x, "45: it can't be", x.sound(5, 10, 10, 8, 7), -2, 100000000L, 143046721L);
        int[][] wrong = {{11, 0, 0, 0, 0}, {-1, 0, 0, 0, 0}, {0, 11, 0, 0, 0}, {0, -1, 0, 0, 0},
            {0, 0, 11, 0, 0}, {0, 0, -1, 0, 0}, {5, 5, 5, 9, 0}, {5, 5, 5, -1, 0},
            {5, 5, 5, 3, 4}, {5, 5, 5, 3, -1}, {5, 5, 5, -1, -1}};
        for (int[] w : wrong) {
            told(x, "45: wrong", x.sound(w[0], w[1], w[2], w[3], w[4]), -1, 100000000L, 143046721L);
        }
    }

    private static void promise46() {
        OysterBeds x = new OysterBeds();
        for (int n = 1; n <= 60; n++) {
            due("46: firm(" + n + ", 2)", x.firm(n, 2), (n + 2) % 3);
            due("46: firm(" + n + ", 3)", x.firm(n, 3), (n + 3) % 4);
            due("46: firm(" + n + ", 4)", x.firm(n, 4), (n + 3) % 4);
        }
        // By 1, 2, 3 and 5: out of 1 and 5 none wins, out of 6 one does by 1.
        int[] by5 = {0, 0, 1, 2, 3, 0, 1, 2, 3, 0, 1};
        for (int n = 0; n < by5.length; n++) {
            due("46: firm(" + n + ", 5)", x.firm(n, 5), by5[n]);
            due("46: firm(" + n + ", 6)", x.firm(n, 6), by5[n]);
        }
        due("46: firm(0, 30)", x.firm(0, 30), 0);
        int[][] wrong = {{61, 2}, {-1, 2}, {5, 1}, {5, 31}, {5, -1}, {0, 0}};
        for (int[] w : wrong) {
            due("46: firm(" + w[0] + ", " + w[1] + ")", x.firm(w[0], w[1]), -1);
        }
    }

    private static void promise47() {
        OysterBeds x = Checks.with(BEDS);
        told(x, "47: none", Checks.law(x, ""), 0, 100, 100);
        told(x, "47: all close", Checks.law(x, "1"), 60, 160, 100);
        told(x, "47: none close", Checks.law(x, "0"), -100, 0, 100);
        told(x, "47: refused", Checks.law(x, "f<<"), -100002, 0, 100);
        due("47: the text empties", x.count(10), 0);
        told(x, "47: the rule stays", x.would(0, 0), 3, 13, 3);
        Checks.rule(x, "1");
        told(x, "47: none against all", Checks.law(x, ""), -60, 100, 160);
        x.puts(0, 0);
        told(x, "47: none is open", Checks.law(x, "0"), 0, 0, 0);
    }

    private static void promise48() {
        OysterBeds x = Checks.with(BEDS);
        told(x, "48: wordings(0)", x.wordings(0), 10, 0, 0);
        told(x, "48: wordings(1)", x.wordings(1), 12, 0, 0);
        told(x, "48: wordings(2)", x.wordings(2), 2, 0, 1);
        told(x, "48: wordings(20)", x.wordings(20), 0);
        x.later(0);
        told(x, "48: wordings(21)", x.wordings(21), -1, 4);
        told(x, "48: wordings(-1)", x.wordings(-1), -1, 4);
    }

    private static void promise49() {
        int[][] runs = {{1, 1, 1, 11, 1}, {1, 10, 7, 0, 7}, {7, 5, 4, 4, 4}, {-1, 60, 26, 0, 26},
            {2026, 30, 4, 15, 4}, {12345, 60, 24, 1, 24}};
        for (int[] r : runs) {
            OysterBeds x = Checks.with(BEDS);
            String call = "49: years(" + r[0] + ", " + r[1] + ")";
            told(x, call, x.years(r[0], r[1]), r[2], r[3], r[4]);
            due(call + ": no pearls", x.count(4), 0);
            due(call + ": none is asked", x.count(3), 0);
            due(call + ": no tide goes by", x.count(2), 0);
            due(call + ": all stay open", x.count(1), 15);
            due(call + ": views stay", x.middle(), 3);
            due(call + ": nothing to undo", x.count(8), 0);
        }
        OysterBeds x = asked();
        x.tides(10);
        told(x, "49: pearls of all", x.years(1, 1), 1, 11, 4);
        told(x, "49: years(1, 0)", x.years(1, 0), -1, 11, 4);
        told(x, "49: years(1, 61)", x.years(1, 61), -1, 11, 4);
        OysterBeds none = new OysterBeds();
        told(none, "49: none", none.years(1, 60), 0, 0, 0);
    }
}
