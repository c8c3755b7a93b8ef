import java.lang.reflect.InvocationTargetException;
import java.lang.reflect.Method;
import java.util.NoSuchElementException;
import java.util.Random;

/**
 * Runs of calls, each answered by the class and by the model. An object is for 512 calls, those by
 * which it is looked at among them: so the ROW is looked at often, and all else now and then.
 */
public final class RandomRunsTest {
    private static final int RUNS = 2500;
    private static final int CALLS = 512;
    /** A text that is put and read, and two looks at everything, take no more than that. */
    private static final int MOST_AT_ONCE = 150;
    private static final int STEPS_TO_A_LOOK = 8;
    private static final int MOST_PRINTED = 20;

    private final Random random;
    private final int run;
    private final OysterBeds beds = new OysterBeds();
    private final Model model = new Model();
    private final StringBuilder calls = new StringBuilder();
    private int made = 0;
    private static int wrong = 0;

    private RandomRunsTest(int run) {
        this.run = run;
        random = new Random(run);
    }

    public static void main(String[] args) throws Exception {
        Checks.watch();
        int runs = args.length > 0 ? Integer.parseInt(args[0]) : RUNS;
        for (int run = 0; run < runs && wrong < MOST_PRINTED; run++) {
            new RandomRunsTest(run).play();
        }
        System.out.println(runs + " runs, " + wrong + " answers not as due");
        if (wrong > 0) {
            System.exit(1);
        }
    }

    private void play() throws Exception {
        int before = wrong;
        for (int steps = 1; made < CALLS - MOST_AT_ONCE && wrong == before; steps++) {
            step();
            if (steps % STEPS_TO_A_LOOK == 0) {
                look();
            }
        }
        look();
        if (made > CALLS) {
            throw new IllegalStateException("more calls than an object is for: " + made);
        }
        if (wrong > before) {
            String all = calls.toString();
            System.out.println("  behind: " + all.substring(Math.max(0, all.length() - 1500)));
        }
    }

    private int upTo(int most) {
        return random.nextInt(most + 1);
    }

    /** Mostly within bounds, now and then just or far outside. */
    private int near(int low, int high) {
        switch (random.nextInt(24)) {
            case 0:
                return low - 1;
            case 1:
                return high + 1;
            case 2:
                return random.nextBoolean() ? random.nextInt() : Integer.MIN_VALUE;
            default:
                return low + upTo(high - low);
        }
    }

    private int oyster() {
        return near(0, Math.max(0, model.count(0) - 1));
    }

    private int topic() {
        return near(0, 3);
    }

    private int wording() {
        return near(0, 9);
    }

    private void step() throws Exception {
        switch (random.nextInt(34)) {
            case 0 -> text(lines(), "oysters");
            case 1, 2 -> text(random.nextInt(6) == 0 ? "" : expression(3), "rule");
            case 3 -> text(random.nextInt(6) == 0 ? "" : expression(3), "law");
            case 4, 5 -> text(season(), "season");
            case 6 -> text(noise(), new String[] {"rule", "law", "oysters", "season"}[upTo(3)]);
            case 7 -> call("sheet", near(0, 3), near(-1, 8), random.nextInt(4) == 0
                    ? random.nextInt() : near(-300, 300), random.nextInt(4) == 0
                    ? random.nextInt() : near(-3, 3));
            case 8, 9, 10 -> call("puts", topic(), wording());
            case 11, 12 -> call("tides", random.nextInt(4) == 0 ? near(0, 60) : near(0, 3));
            case 13 -> call("stills", oyster(), near(0, 9));
            case 14 -> call("holds", oyster(), near(0, 15));
            case 15 -> call("knife", oyster());
            case 16 -> call("undo");
            case 17 -> call("keep", near(0, 2));
            case 18 -> call("again", near(0, 2));
            case 19, 20 -> call("seen", topic(), wording(), near(0, Math.max(1, model.count(0))));
            case 21, 22 -> call("heard", near(0, 4), near(0, random.nextBoolean() ? 3 : 9));
            case 23 -> call(random.nextInt(3) == 0 ? "forget" : "denies");
            default -> ask();
        }
    }

    private void ask() throws Exception {
        switch (random.nextInt(34)) {
            case 0 -> call("would", topic(), wording());
            case 1 -> call("words", topic(), near(0, 8));
            case 2 -> call("honest");
            case 3 -> call("shyest", topic(), wording());
            case 4 -> call("loudest");
            case 5 -> call("repeats", topic(), wording(), near(1, 20));
            case 6 -> call("later", random.nextInt(3) == 0 ? near(0, 99) : near(0, 5));
            case 7 -> call("calm");
            case 8 -> call("opens", near(0, 8));
            case 9 -> call("line");
            case 10 -> call("yes", topic());
            case 11 -> call("whole");
            case 12 -> call("middle");
            case 13 -> call("nearest");
            case 14 -> call("sorts");
            case 15 -> call("tells");
            case 16 -> call("jury");
            case 17 -> call("power", oyster());
            case 18 -> {
                if (model.count(0) < 7 || random.nextInt(20) == 0) {
                    call("pivots", oyster());
                }
            }
            case 19 -> call("rules");
            case 20 -> call("parties");
            case 21, 22 -> call("cares", oyster());
            case 23 -> call("next", oyster());
            case 24 -> call("fits");
            case 25, 26 -> call("asks");
            case 27, 28 -> call("slips", topic(), wording(), near(0, 10), near(0, 8));
            case 29 -> call("sound", near(0, 10), near(0, 10), near(0, 10), near(0, 8), near(0, 8));
            case 30 -> call("firm", near(0, 60), near(2, 30));
            case 31 -> call("wordings", near(0, 20));
            case 32 -> call("years", random.nextInt(), near(1, 60));
            default -> call("end", near(0, 20));
        }
    }

    /** Writes a text, spoilt now and then, and has it read. */
    private void text(String good, String by) throws Exception {
        String signs = good;
        if (random.nextInt(5) == 0 && !signs.isEmpty()) {
            int at = random.nextInt(signs.length());
            char sign = random.nextInt(4) == 0 ? (char) random.nextInt(256)
                    : "0123456789nprfvkwcq;()<>=+-*/~".charAt(random.nextInt(30));
            int behind = at + random.nextInt(2);
            signs = signs.substring(0, at) + sign + signs.substring(behind);
        }
        if (random.nextInt(12) == 0 && !signs.isEmpty()) {
            signs = signs.substring(0, random.nextInt(signs.length()));
        }
        if (random.nextInt(8) > 0) {
            call("end", 0);
        }
        int length = model.count(10) + signs.length();
        for (int v : Checks.fours(signs)) {
            call("sign", v);
        }
        call("end", length);
        call(by);
    }

    private String lines() {
        StringBuilder lines = new StringBuilder();
        int most = random.nextInt(5) == 0 ? 9 : 3;
        for (int i = upTo(most); i >= 0; i--) {
            int view = upTo(random.nextInt(9) == 0 ? 20 : 15);
            lines.append("npr".charAt(upTo(2))).append(upTo(9)).append(view / 10)
                    .append(view % 10).append(i > 0 ? ";" : "");
        }
        return lines.toString();
    }

    private String season() {
        StringBuilder acts = new StringBuilder();
        for (int i = upTo(random.nextInt(9) == 0 ? 24 : 8); i > 0; i--) {
            int one = upTo(Math.min(9, model.count(0)));
            switch (random.nextInt(6)) {
                case 0 -> acts.append('n').append(upTo(9));
                case 1, 2 -> acts.append('q').append(upTo(3)).append(upTo(9));
                case 3 -> acts.append('f').append(one).append(upTo(9));
                case 4 -> acts.append('v').append(one).append(upTo(1)).append(upTo(6));
                default -> acts.append('k').append(one);
            }
        }
        return acts.toString();
    }

    private String expression(int depth) {
        StringBuilder e = new StringBuilder(sum(depth));
        if (random.nextInt(4) == 0) {
            e.append("<>=".charAt(upTo(2))).append(sum(depth - 1));
        }
        return e.toString();
    }

    private String sum(int depth) {
        StringBuilder e = new StringBuilder();
        for (int i = upTo(2); i >= 0; i--) {
            while (random.nextInt(6) == 0) {
                e.append('-');
            }
            if (depth > -2 && random.nextInt(6) == 0) {
                e.append('(').append(expression(depth - 1)).append(')');
            } else if (random.nextInt(3) == 0) {
                e.append(random.nextInt(random.nextInt(9) == 0 ? 1100 : 12));
            } else {
                e.append("fvkwcpn".charAt(upTo(6)));
            }
            e.append(i > 0 ? "+-*/".charAt(upTo(3)) : ' ');
        }
        e.setLength(e.length() - 1);
        return e.toString();
    }

    private String noise() {
        StringBuilder signs = new StringBuilder();
        String of = new String[] {"n", "p5r013;", "fv(w-9", "nq0f1k2v", "-", "((1<2)", "123"}[upTo(6)];
        for (int i = upTo(80); i > 0; i--) {
            signs.append(of.charAt(random.nextInt(of.length())));
        }
        return signs.toString();
    }

    private void call(String name, int... args) throws Exception {
        made++;
        calls.append(name).append('(');
        Class<?>[] types = new Class<?>[args.length];
        Object[] values = new Object[args.length];
        for (int i = 0; i < args.length; i++) {
            types[i] = int.class;
            values[i] = args[i];
            calls.append(i > 0 ? ", " : "").append(args[i]);
        }
        calls.append(") ");
        Object got = answer(beds, OysterBeds.class.getMethod(name, types), values);
        Object want = answer(model, Model.class.getMethod(name, types), values);
        same(name, got, want);
        if (!name.equals("sign") && !name.equals("end")) {
            lookAtRow();
        }
    }

    private void lookAtRow() {
        int numbers = model.count(9);
        made += 1 + numbers;
        same("count(9)", beds.count(9), numbers);
        for (int i = 0; i < numbers; i++) {
            same("row(" + i + ")", beds.row(i), model.row(i));
        }
    }

    private void look() {
        for (int what = 0; what <= 10; what++) {
            made++;
            same("count(" + what + ")", beds.count(what), model.count(what));
        }
        for (int i = 0; i < model.count(0); i++) {
            for (int what = 0; what < 5; what++) {
                made++;
                same("oyster(" + i + ", " + what + ")", beds.oyster(i, what), model.oyster(i, what));
            }
        }
    }

    private static Object answer(Object on, Method method, Object[] values) throws Exception {
        try {
            return method.invoke(on, values);
        } catch (InvocationTargetException e) {
            if (e.getCause() instanceof NoSuchElementException) {
                return "NoSuchElementException";
            }
            return e.getCause().toString();
        }
    }

    private void same(String call, Object got, Object want) {
        if (!got.equals(want)) {
            wrong++;
            System.out.println("run " + run + ", call " + made + ": " + call + " answered " + got
                    + ", due is " + want);
        }
    }
}
