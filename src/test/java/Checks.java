import java.util.NoSuchElementException;

/** What the tests share: it prints each answer that is not the one that is due. */
final class Checks {
    static final long THROWS = Long.MIN_VALUE;

    private static final long MOST_MILLIS = 120_000;

    private int wrong = 0;
    private int made = 0;

    interface Call {
        long answer();
    }

    Checks() {
        watch();
    }

    /** A call that doesn't end fails the test, too. */
    static void watch() {
        Thread watch = new Thread(() -> {
            try {
                Thread.sleep(MOST_MILLIS);
            } catch (InterruptedException e) {
                return;
            }
            System.out.println("a call did not end");
            Runtime.getRuntime().halt(1);
        });
        watch.setDaemon(true);
        watch.start();
    }

    void due(String call, long got, long want) {
        made++;
        if (got != want) {
            wrong++;
            System.out.println(call + " answered " + told(got) + ", due is " + told(want));
        }
    }

    void due(String call, boolean got, boolean want) {
        due(call, got ? 1 : 0, want ? 1 : 0);
    }

    /** That the ROW is just these numbers. */
    void row(String call, OysterBeds x, long... want) {
        due(call + ": numbers of the row", x.count(9), want.length);
        for (int i = 0; i < want.length; i++) {
            int at = i;
            due(call + ": row(" + i + ")", answerOf(() -> x.row(at)), want[i]);
        }
        due(call + ": row behind the last", answerOf(() -> x.row(want.length)), THROWS);
        due(call + ": row(-1)", answerOf(() -> x.row(-1)), THROWS);
    }

    static long answerOf(Call call) {
        try {
            return call.answer();
        } catch (NoSuchElementException e) {
            return THROWS;
        }
    }

    /** The signs as sign() takes them, four in an int; 0 behind the last one. */
    static int[] fours(String signs) {
        int[] fours = new int[(signs.length() + 3) / 4];
        for (int i = 0; i < 4 * fours.length; i++) {
            int sign = i < signs.length() ? signs.charAt(i) : 0;
            fours[i / 4] = fours[i / 4] << 8 | sign;
        }
        return fours;
    }

    /** Puts signs behind THE TEXT. */
    static void write(OysterBeds x, String signs) {
        int length = x.count(10) + signs.length();
        for (int v : fours(signs)) {
            x.sign(v);
        }
        x.end(length);
    }

    static OysterBeds with(String lines) {
        OysterBeds x = new OysterBeds();
        write(x, lines);
        x.oysters();
        return x;
    }

    static OysterBeds with(String lines, String rule) {
        OysterBeds x = with(lines);
        write(x, rule);
        x.rule();
        return x;
    }

    static int oysters(OysterBeds x, String text) {
        write(x, text);
        return x.oysters();
    }

    static int rule(OysterBeds x, String text) {
        write(x, text);
        return x.rule();
    }

    static int season(OysterBeds x, String text) {
        write(x, text);
        return x.season();
    }

    static int law(OysterBeds x, String text) {
        write(x, text);
        return x.law();
    }

    private static String told(long answer) {
        return answer == THROWS ? "NoSuchElementException" : Long.toString(answer);
    }

    void end() {
        System.out.println(made + " answers, " + wrong + " not as due");
        if (wrong > 0) {
            System.exit(1);
        }
    }
}
