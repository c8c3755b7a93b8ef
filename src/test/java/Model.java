import java.math.BigInteger;
import java.util.ArrayList;
import java.util.Arrays;
import java.util.List;
import java.util.NoSuchElementException;
import java.util.TreeMap;
import java.util.function.IntPredicate;
import java.util.regex.Matcher;
import java.util.regex.Pattern;

/** The document once more, in the most roundabout way, to be held against the class. */
final class Model {
    private static final class Oyster {
        int kind, fear, view, shut, pearl;

        Oyster copy() {
            Oyster o = new Oyster();
            o.kind = kind;
            o.fear = fear;
            o.view = view;
            o.shut = shut;
            o.pearl = pearl;
            return o;
        }

        boolean open() {
            return shut == 0;
        }

        boolean yes(int topic) {
            return (view & (1 << topic)) != 0;
        }
    }

    private static final class State {
        List<Oyster> all = new ArrayList<>();
        int tide, asked;

        State copy() {
            State s = new State();
            for (Oyster o : all) {
                s.all.add(o.copy());
            }
            s.tide = tide;
            s.asked = asked;
            return s;
        }

        int bits(java.util.function.Predicate<Oyster> p) {
            int bits = 0;
            for (int i = 0; i < all.size(); i++) {
                if (p.test(all.get(i))) {
                    bits += 1 << i;
                }
            }
            return bits;
        }

        int open() {
            return bits(Oyster::open);
        }

        List<Integer> closing(String rule, int topic, int wording) {
            List<Integer> list = new ArrayList<>();
            for (int i = 0; i < all.size(); i++) {
                if (all.get(i).open() && value(rule, i, topic, wording) > 0) {
                    list.add(i);
                }
            }
            return list;
        }

        int value(String rule, int i, int topic, int wording) {
            Oyster o = all.get(i);
            int likes = 0;
            for (Oyster other : all) {
                if (other != o && other.kind == o.kind && other.open()) {
                    likes++;
                }
            }
            int c = likes;
            Reader reader = new Reader(rule);
            reader.letters = sign -> switch (sign) {
                case 'f' -> o.fear;
                case 'v' -> o.yes(topic) ? 1 : 0;
                case 'k' -> o.kind;
                case 'w' -> wording;
                case 'c' -> c;
                case 'p' -> o.pearl;
                default -> tide % 7;
            };
            return reader.expression(0);
        }

        List<Integer> ask(String rule, int topic, int wording) {
            List<Integer> closed = closing(rule, topic, wording);
            for (int i : closed) {
                Oyster o = all.get(i);
                o.shut += 1 + o.fear / 2;
                if (o.pearl < 99) {
                    o.pearl++;
                }
            }
            if (asked < 9999) {
                asked++;
            }
            return closed;
        }

        void tide() {
            for (Oyster o : all) {
                if (o.shut > 0) {
                    o.shut--;
                }
            }
            tide++;
        }
    }

    private static final class Stop extends RuntimeException {
        private static final long serialVersionUID = 1;
        final int at;

        Stop(int at) {
            super(null, null, false, false);
            this.at = at;
        }
    }

    /** Reckons while it reads; stops where a sign can't stand. */
    private static final class Reader {
        final String text;
        int p = 0;
        java.util.function.IntUnaryOperator letters = sign -> 1;

        Reader(String text) {
            this.text = text;
        }

        char here() {
            return p < text.length() ? text.charAt(p) : '\uffff';
        }

        int expression(int depth) {
            int a = sum(depth);
            if (here() == '<' || here() == '>' || here() == '=') {
                char sign = here();
                p++;
                int b = sum(depth);
                a = (sign == '<' ? a < b : sign == '>' ? a > b : a == b) ? 1 : 0;
            }
            if (depth == 0 ? p < text.length() : here() != ')') {
                throw new Stop(p);
            }
            return a;
        }

        int sum(int depth) {
            int a = product(depth);
            while (here() == '+' || here() == '-') {
                char sign = here();
                p++;
                int b = product(depth);
                a = sign == '+' ? a + b : a - b;
            }
            return a;
        }

        int product(int depth) {
            int a = thing(depth);
            while (here() == '*' || here() == '/') {
                char sign = here();
                p++;
                int b = thing(depth);
                a = sign == '*' ? a * b : b == 0 ? 0 : a / b;
            }
            return a;
        }

        int thing(int depth) {
            if (here() == '-') {
                p++;
                return -thing(depth);
            }
            if (here() == '(' && depth < 4) {
                p++;
                int a = expression(depth + 1);
                p++;
                return a;
            }
            if ("fvkwcpn".indexOf(here()) >= 0) {
                p++;
                return letters.applyAsInt(text.charAt(p - 1));
            }
            int from = p;
            while (p < from + 3 && here() >= '0' && here() <= '9') {
                p++;
            }
            if (p == from) {
                throw new Stop(p);
            }
            return Integer.parseInt(text.substring(from, p));
        }
    }

    private static final String NO_RULE = "v*9-f+w";
    private static final Pattern LINES = Pattern.compile("([npr][0-9][0-9]{2})(;[npr][0-9][0-9]{2})*");
    private static final Pattern SEASON = Pattern.compile(
            "(n[0-9]|q[0-3][0-9]|f[0-9]{2}|v[0-9]{3}|k[0-9])*");

    private String text = "";
    private String rule = NO_RULE;
    private State now = new State();
    private long[] told = {};
    private final List<State> undos = new ArrayList<>();
    private final State[] kept = new State[3];
    private final List<int[]> sights = new ArrayList<>();
    private final List<int[]> rumours = new ArrayList<>();

    private void tell(long... numbers) {
        told = numbers;
    }

    private void done(State before) {
        undos.add(before);
        if (undos.size() > 15) {
            undos.remove(0);
        }
    }

    private static int bits(List<Integer> ones) {
        int bits = 0;
        for (int i : ones) {
            bits |= 1 << i;
        }
        return bits;
    }

    private static boolean in(int v, int low, int high) {
        return low <= v && v <= high;
    }

    private static boolean question(int topic, int wording) {
        return in(topic, 0, 3) && in(wording, 0, 9);
    }

    private boolean has(int oyster) {
        return in(oyster, 0, now.all.size() - 1);
    }

    private int all() {
        return (1 << now.all.size()) - 1;
    }

    /** The longest beginning that could go on or end, by trying all. */
    private static int viable(Pattern pattern, String signs) {
        int n = 0;
        for (int i = 1; i <= signs.length(); i++) {
            Matcher matcher = pattern.matcher(signs.substring(0, i));
            if (matcher.matches() || matcher.hitEnd()) {
                n = i;
            } else {
                break;
            }
        }
        return n;
    }

    private static int fault(Pattern pattern, String signs, int most) {
        String first = signs.substring(0, Math.min(most, signs.length()));
        int n = viable(pattern, first);
        if (n < first.length()) {
            return n;
        }
        if (signs.length() > most) {
            return most;
        }
        return signs.isEmpty() || pattern.matcher(first).matches() ? -1 : first.length();
    }

    private static int ruleFault(String signs) {
        String first = signs.substring(0, Math.min(40, signs.length()));
        try {
            new Reader(first).expression(0);
        } catch (Stop stop) {
            if (stop.at < first.length()) {
                return stop.at;
            }
            return first.length();
        }
        return signs.length() > 40 ? 40 : -1;
    }

    private String taken() {
        String was = text;
        text = "";
        return was;
    }

    public int sign(int v) {
        if (text.length() > 76) {
            return -1;
        }
        text += "" + (char) (v >> 24 & 0xff) + (char) (v >> 16 & 0xff) + (char) (v >> 8 & 0xff)
                + (char) (v & 0xff);
        return text.length();
    }

    public boolean end(int n) {
        if (n < 0 || n > text.length()) {
            return false;
        }
        text = text.substring(0, n);
        return true;
    }

    public int oysters() {
        String signs = taken();
        int fault = fault(LINES, signs, 39);
        for (int p = 0; p < Math.min(signs.length(), fault < 0 ? 99 : fault) || p == fault; p++) {
            boolean full = p % 5 == 0 && now.all.size() + p / 5 >= 8 && !signs.isEmpty() && p < 39;
            boolean high = p % 5 == 3 && p < signs.length() && Character.isDigit(signs.charAt(p))
                    && p != fault && Integer.parseInt(signs.substring(p - 1, p + 1)) > 15;
            if (full || high) {
                return -1 - p;
            }
        }
        if (fault >= 0) {
            return -1 - fault;
        }
        if (signs.isEmpty()) {
            return 0;
        }
        String[] lines = signs.split(";");
        for (String line : lines) {
            Oyster o = new Oyster();
            o.kind = "npr".indexOf(line.charAt(0));
            o.fear = Integer.parseInt(line.substring(1, 2));
            o.view = Integer.parseInt(line.substring(2));
            now.all.add(o);
        }
        undos.clear();
        Arrays.fill(kept, null);
        return lines.length;
    }

    public int rule() {
        String signs = taken();
        if (signs.isEmpty()) {
            rule = NO_RULE;
            return 0;
        }
        int fault = ruleFault(signs);
        if (fault >= 0) {
            return -1 - fault;
        }
        rule = signs;
        return 0;
    }

    public int oyster(int oyster, int what) {
        if (!has(oyster) || !in(what, 0, 4)) {
            throw new NoSuchElementException();
        }
        Oyster o = now.all.get(oyster);
        return new int[] {o.kind, o.fear, o.view, o.shut, o.pearl}[what];
    }

    public int sheet(int kind, int n, int f, int step) {
        if (!in(kind, 0, 3) || n > 8) {
            return -1;
        }
        if (kind < 3 && n < 0) {
            return -2;
        }
        int sum = 0;
        int entry = f;
        for (int i = 0; i < now.all.size(); i++) {
            int v = kind == 0 ? (entry << 24) >> 24 : kind == 1 ? (entry << 16) >> 16 : entry;
            v = v < 0 ? 0 : v > 9 ? 9 : v;
            if (kind == 3 || i >= n) {
                v = 0;
            }
            now.all.get(i).fear = v;
            sum += v;
            entry += step;
        }
        return kind == 3 ? -3 : sum;
    }

    private int putsIt(int topic, int wording) {
        List<Integer> closed = now.ask(rule, topic, wording);
        tell(bits(closed), now.open());
        return closed.size();
    }

    public int puts(int topic, int wording) {
        if (!question(topic, wording)) {
            return -1;
        }
        done(now.copy());
        return putsIt(topic, wording);
    }

    private int tidesIt(int n) {
        int before = now.open();
        for (int i = 0; i < n; i++) {
            now.tide();
        }
        tell(now.open() - before);
        return Integer.bitCount(now.open());
    }

    public int tides(int n) {
        if (!in(n, 0, 60)) {
            return -1;
        }
        done(now.copy());
        return tidesIt(n);
    }

    private int stillsIt(int oyster, int v) {
        if (!has(oyster) || !in(v, 0, 9)) {
            return -1;
        }
        Oyster o = now.all.get(oyster);
        if (o.fear == v) {
            return -2;
        }
        int was = o.fear;
        o.fear = v;
        return 10 + was;
    }

    public int stills(int oyster, int v) {
        State before = now.copy();
        int answer = stillsIt(oyster, v);
        if (answer >= 0) {
            done(before);
        }
        return answer;
    }

    private int holdsIt(int oyster, int v) {
        if (!has(oyster) || !in(v, 0, 15)) {
            return -1;
        }
        Oyster o = now.all.get(oyster);
        if (o.view == v) {
            return -2;
        }
        int was = o.view;
        o.view = v;
        return 20 + was;
    }

    public int holds(int oyster, int v) {
        State before = now.copy();
        int answer = holdsIt(oyster, v);
        if (answer >= 0) {
            done(before);
        }
        return answer;
    }

    private int knifeIt(int oyster) {
        if (!has(oyster)) {
            return -1;
        }
        Oyster o = now.all.get(oyster);
        if (o.open()) {
            return -2;
        }
        int had = o.pearl;
        o.pearl = 0;
        o.shut = 0;
        return had;
    }

    public int knife(int oyster) {
        State before = now.copy();
        int answer = knifeIt(oyster);
        if (answer >= 0) {
            done(before);
        }
        return answer;
    }

    public int season() {
        String signs = taken();
        int fault = fault(SEASON, signs, 60);
        if (fault >= 0) {
            return -1 - fault;
        }
        State before = now.copy();
        Matcher acts = Pattern.compile("[nqfvk][0-9]+").matcher(signs);
        int count = 0;
        int refused = 0;
        while (refused == 0 && acts.find()) {
            String act = acts.group();
            int first = act.charAt(1) - '0';
            int rest = act.length() > 2 ? Integer.parseInt(act.substring(2)) : 0;
            int answer = switch (act.charAt(0)) {
                case 'n' -> tidesIt(first);
                case 'q' -> putsIt(first, rest);
                case 'f' -> stillsIt(first, rest);
                case 'v' -> holdsIt(first, rest);
                default -> knifeIt(first);
            };
            if (answer < 0) {
                refused = 1;
            } else {
                count++;
            }
        }
        if (count > 0) {
            done(before);
        }
        tell(refused, Integer.bitCount(now.open()));
        return count;
    }

    public int undo() {
        if (undos.isEmpty()) {
            return -1;
        }
        now = undos.remove(undos.size() - 1);
        return undos.size();
    }

    public int would(int topic, int wording) {
        if (!question(topic, wording)) {
            return -1;
        }
        List<Integer> closing = now.closing(rule, topic, wording);
        int yes = 0;
        for (int i : closing) {
            yes += now.all.get(i).yes(topic) ? 1 : 0;
        }
        tell(bits(closing), yes);
        return closing.size();
    }

    public int words(int topic, int n) {
        if (!in(topic, 0, 3) || !in(n, 0, 8)) {
            return -1;
        }
        List<Integer> such = new ArrayList<>();
        for (int w = 0; w < 10; w++) {
            if (now.closing(rule, topic, w).size() == n) {
                such.add(w);
            }
        }
        if (such.isEmpty()) {
            return -2;
        }
        tell(such.size(), bits(now.closing(rule, topic, such.get(0))));
        return such.get(0);
    }

    public int honest() {
        List<Integer> such = new ArrayList<>();
        for (int t = 0; t < 4; t++) {
            for (int w = 0; w < 10; w++) {
                int topic = t;
                if (bits(now.closing(rule, t, w)) == now.bits(o -> o.open() && o.yes(topic))) {
                    such.add(10 * t + w);
                }
            }
        }
        if (such.isEmpty()) {
            return -2;
        }
        tell(such.size());
        return such.get(0);
    }

    public int shyest(int topic, int wording) {
        if (!question(topic, wording)) {
            return -1;
        }
        long[] by = new long[3];
        for (int i : now.closing(rule, topic, wording)) {
            by[now.all.get(i).kind]++;
        }
        tell(by);
        return by[0] >= by[1] && by[0] >= by[2] ? 0 : by[1] >= by[2] ? 1 : 2;
    }

    public int loudest() {
        TreeMap<Integer, Integer> first = new TreeMap<>();
        for (int q = 0; q < 40; q++) {
            first.putIfAbsent(now.closing(rule, q / 10, q % 10).size(), q);
        }
        tell(first.lastKey(), first.firstKey());
        return first.lastEntry().getValue();
    }

    public int repeats(int topic, int wording, int n) {
        if (!question(topic, wording) || !in(n, 1, 20)) {
            return -1;
        }
        State trial = now.copy();
        int sum = 0;
        long[] each = new long[n];
        for (int i = 0; i < n; i++) {
            each[i] = trial.ask(rule, topic, wording).size();
            sum += each[i];
            trial.tide();
        }
        tell(Arrays.copyOf(each, Math.min(12, n)));
        return sum;
    }

    private State after(int n) {
        State trial = now.copy();
        for (int i = 0; i < n; i++) {
            trial.tide();
        }
        return trial;
    }

    public int later(int n) {
        if (!in(n, 0, 99)) {
            return -1;
        }
        int open = after(n).open();
        tell(Integer.bitCount(open));
        return open;
    }

    public int calm() {
        int n = 0;
        while (after(n).open() != all()) {
            n++;
        }
        return n;
    }

    public int opens(int n) {
        if (!in(n, 0, 8)) {
            return -1;
        }
        if (n > now.all.size()) {
            return -2;
        }
        int t = 0;
        while (Integer.bitCount(after(t).open()) < n) {
            t++;
        }
        tell(after(t).open());
        return t;
    }

    public int line() {
        List<Integer> order = new ArrayList<>();
        for (int i = 0; i < now.all.size(); i++) {
            order.add(i);
        }
        order.sort((a, b) -> now.all.get(a).shut - now.all.get(b).shut);
        tell(order.stream().mapToLong(i -> i).toArray());
        return order.size();
    }

    public int yes(int topic) {
        if (!in(topic, 0, 3)) {
            return -1;
        }
        long[] row = new long[4];
        int sum = 0;
        for (Oyster o : now.all) {
            if (o.yes(topic)) {
                sum++;
                row[0] += o.open() ? 1 : 0;
                row[1 + o.kind]++;
            }
        }
        tell(row);
        return sum;
    }

    private int majority(int set) {
        int view = 0;
        for (int t = 0; t < 4; t++) {
            int lead = 0;
            for (int i = 0; i < now.all.size(); i++) {
                if ((set >> i & 1) == 1) {
                    lead += now.all.get(i).yes(t) ? 1 : -1;
                }
            }
            view += lead > 0 ? 1 << t : 0;
        }
        return view;
    }

    public int whole() {
        int view = majority(all());
        int same = 0;
        int ties = 4;
        for (Oyster o : now.all) {
            same += o.view == view ? 1 : 0;
        }
        for (int t = 0; t < 4; t++) {
            int lead = 0;
            for (Oyster o : now.all) {
                lead += o.yes(t) ? 1 : -1;
            }
            ties -= lead != 0 ? 1 : 0;
        }
        tell(same, ties);
        return view;
    }

    private static int far(int a, int b) {
        int far = 0;
        for (int t = 0; t < 4; t++) {
            far += (a >> t & 1) != (b >> t & 1) ? 1 : 0;
        }
        return far;
    }

    public int middle() {
        int best = -1;
        int least = 99;
        int farthest = 0;
        for (int v = 0; v < 16; v++) {
            int sum = 0;
            int most = 0;
            for (Oyster o : now.all) {
                sum += far(o.view, v);
                most = Math.max(most, far(o.view, v));
            }
            if (sum < least) {
                least = sum;
                best = v;
                farthest = most;
            }
        }
        tell(least, farthest);
        return best;
    }

    public int nearest() {
        for (int d = 0; d <= 4; d++) {
            for (int i = 0; i < now.all.size(); i++) {
                for (int j = i + 1; j < now.all.size(); j++) {
                    if (far(now.all.get(i).view, now.all.get(j).view) == d) {
                        tell(i, j);
                        return d;
                    }
                }
            }
        }
        return -2;
    }

    public int sorts() {
        TreeMap<Integer, Integer> by = new TreeMap<>();
        for (int i = 0; i < now.all.size(); i++) {
            by.merge(now.all.get(i).view, 1 << i, Integer::sum);
        }
        Integer best = null;
        for (int set : by.values()) {
            boolean more = best == null || Integer.bitCount(set) > Integer.bitCount(best)
                    || Integer.bitCount(set) == Integer.bitCount(best)
                    && Integer.lowestOneBit(set) < Integer.lowestOneBit(best);
            best = more ? Integer.valueOf(set) : best;
        }
        if (best == null) {
            tell();
        } else {
            tell(best);
        }
        return by.size();
    }

    /** Of the sets the first one by size, then by number. */
    private static int fewest(int all, IntPredicate such) {
        for (int size = 0; size <= 8; size++) {
            for (int set = 0; set <= all; set++) {
                if (Integer.bitCount(set) == size && such.test(set)) {
                    return set;
                }
            }
        }
        return -1;
    }

    public int tells() {
        int set = fewest(15, topics -> {
            for (Oyster a : now.all) {
                for (Oyster b : now.all) {
                    if (a.view != b.view && (a.view & topics) == (b.view & topics)) {
                        return false;
                    }
                }
            }
            return true;
        });
        tell(set);
        return Integer.bitCount(set);
    }

    public int jury() {
        int set = fewest(all(), s -> Integer.bitCount(s) % 2 == 1
                && majority(s) == majority(all()));
        if (set < 0) {
            return -2;
        }
        tell(set);
        return Integer.bitCount(set);
    }

    private int weight(int set) {
        int sum = 0;
        for (int i = 0; i < now.all.size(); i++) {
            if ((set & 1 << i) != 0) {
                sum += 10 - now.all.get(i).fear;
            }
        }
        return sum;
    }

    private boolean decides(int set) {
        return weight(set) > weight(all()) - weight(set);
    }

    private void tellFraction(BigInteger up, BigInteger low) {
        BigInteger g = up.gcd(low);
        tell(up.divide(g).longValueExact(), low.divide(g).longValueExact());
    }

    public int power(int oyster) {
        if (!has(oyster)) {
            return -1;
        }
        int sets = 0;
        int such = 0;
        for (int set = 0; set <= all(); set++) {
            if ((set & 1 << oyster) == 0) {
                sets++;
                such += !decides(set) && decides(set + (1 << oyster)) ? 1 : 0;
            }
        }
        tellFraction(BigInteger.valueOf(such), BigInteger.valueOf(sets));
        return 0;
    }

    private int[] orders(int came, int oyster) {
        if (came == all()) {
            return new int[] {0, 1};
        }
        int[] sum = new int[2];
        for (int i = 0; i < now.all.size(); i++) {
            if ((came & 1 << i) == 0) {
                int[] rest = orders(came | 1 << i, oyster);
                boolean turns = i == oyster && !decides(came) && decides(came | 1 << i);
                sum[0] += turns ? rest[1] : rest[0];
                sum[1] += rest[1];
            }
        }
        return sum;
    }

    public int pivots(int oyster) {
        if (!has(oyster)) {
            return -1;
        }
        int[] sum = orders(0, oyster);
        tellFraction(BigInteger.valueOf(sum[0]), BigInteger.valueOf(sum[1]));
        return 0;
    }

    public int rules() {
        if (now.all.isEmpty()) {
            return -2;
        }
        int set = fewest(all(), this::decides);
        int alike = 0;
        for (int t = 0; t < 4; t++) {
            int yes = 0;
            for (int i = 0; i < now.all.size(); i++) {
                yes += (set >> i & 1) == 1 && now.all.get(i).yes(t) ? 1 : 0;
            }
            alike += yes == 0 || yes == Integer.bitCount(set) ? 1 : 0;
        }
        tell(set, alike);
        return Integer.bitCount(set);
    }

    public int parties() {
        TreeMap<Integer, Integer> by = new TreeMap<>();
        for (int set = 0; set <= all(); set++) {
            by.putIfAbsent(Math.abs(weight(set) - weight(all() & ~set)), set);
        }
        tell(by.firstEntry().getValue(), weight(by.firstEntry().getValue()));
        return by.firstKey();
    }

    public int seen(int topic, int wording, int n) {
        if (!question(topic, wording) || !in(n, 0, 8) || sights.size() == 10) {
            return -1;
        }
        sights.add(new int[] {topic, wording, n});
        return sights.size();
    }

    public int forget() {
        int had = sights.size();
        sights.clear();
        return had;
    }

    private int closingWith(int oyster, int view, int topic, int wording) {
        State trial = now.copy();
        trial.all.get(oyster).view = view;
        return trial.closing(rule, topic, wording).size();
    }

    private List<Integer> views(int oyster) {
        List<Integer> views = new ArrayList<>();
        for (int v = 0; v < 16; v++) {
            boolean fits = true;
            for (int[] s : sights) {
                fits &= closingWith(oyster, v, s[0], s[1]) == s[2];
            }
            if (fits) {
                views.add(v);
            }
        }
        return views;
    }

    public int cares(int oyster) {
        if (!has(oyster)) {
            return -1;
        }
        List<Integer> views = views(oyster);
        if (views.isEmpty()) {
            tell(0);
        } else {
            tell(views.size(), views.get(0), views.get(views.size() - 1));
        }
        return bits(views);
    }

    public int next(int oyster) {
        if (!has(oyster)) {
            return -1;
        }
        List<Integer> views = views(oyster);
        if (views.isEmpty()) {
            return -2;
        }
        TreeMap<Integer, Integer> by = new TreeMap<>();
        for (int q = 0; q < 40; q++) {
            int[] left = new int[9];
            for (int v : views) {
                left[closingWith(oyster, v, q / 10, q % 10)]++;
            }
            by.putIfAbsent(Arrays.stream(left).max().getAsInt(), q);
        }
        tell(by.firstKey());
        return by.firstEntry().getValue();
    }

    private static boolean canBeHeard(int what, int v) {
        return switch (what) {
            case 0 -> in(v, 0, 2);
            case 1, 4 -> in(v, 0, 9);
            case 2 -> in(v, 0, 3);
            case 3 -> in(v, 0, 1);
            default -> false;
        };
    }

    public int heard(int what, int v) {
        if (!canBeHeard(what, v) || rumours.size() == 12) {
            return -1;
        }
        rumours.add(new int[] {what, v});
        return rumours.size();
    }

    public int denies() {
        int had = rumours.size();
        rumours.clear();
        return had;
    }

    private static boolean so(Oyster o, int what, int v) {
        return switch (what) {
            case 0 -> o.kind == v;
            case 1 -> o.fear >= v;
            case 2 -> o.yes(v);
            case 3 -> o.open() ? v == 1 : v == 0;
            default -> o.pearl >= v;
        };
    }

    private int fitting() {
        return now.bits(o -> rumours.stream().allMatch(r -> so(o, r[0], r[1])));
    }

    public int fits() {
        tell(Integer.bitCount(fitting()));
        return fitting();
    }

    public int asks() {
        int fitting = fitting();
        if (fitting == 0) {
            return -2;
        }
        TreeMap<Integer, Integer> by = new TreeMap<>();
        for (int what = 0; what < 5; what++) {
            for (int v = 0; v < 10; v++) {
                if (canBeHeard(what, v)) {
                    int w = what;
                    int u = v;
                    int so = Integer.bitCount(fitting & now.bits(o -> so(o, w, u)));
                    int not = Integer.bitCount(fitting & now.bits(o -> !so(o, w, u)));
                    by.putIfAbsent(Math.max(so, not), 10 * what + v);
                }
            }
        }
        tell(by.firstKey());
        return by.firstEntry().getValue();
    }

    public int slips(int topic, int wording, int p, int n) {
        if (!question(topic, wording) || !in(p, 0, 10) || !in(n, 0, 8)) {
            return -1;
        }
        List<Integer> closing = now.closing(rule, topic, wording);
        long[] chance = new long[10];
        chance[0] = 1;
        long low = 1;
        for (int i = 0; i < now.all.size(); i++) {
            if (now.all.get(i).open()) {
                int c = closing.contains(i) ? 10 - p : p;
                for (int j = 9; j >= 0; j--) {
                    chance[j] = chance[j] * (10 - c) + (j > 0 ? chance[j - 1] * c : 0);
                }
                low *= 10;
            }
        }
        tellFraction(BigInteger.valueOf(chance[n]), BigInteger.valueOf(low));
        return 0;
    }

    private static BigInteger path(int first, int c, int n, int k) {
        BigInteger product = BigInteger.valueOf(first);
        for (int i = 0; i < n; i++) {
            product = product.multiply(BigInteger.valueOf(i < k ? c : 10 - c));
        }
        return product;
    }

    public int sound(int a, int b, int c, int n, int k) {
        if (!in(a, 0, 10) || !in(b, 0, 10) || !in(c, 0, 10) || !in(n, 0, 8) || !in(k, 0, n)) {
            return -1;
        }
        BigInteger so = path(a, b, n, k);
        BigInteger not = path(10 - a, c, n, k);
        if (so.add(not).signum() == 0) {
            return -2;
        }
        tellFraction(so, so.add(not));
        return 0;
    }

    private static final int[] TAKES = {1, 2, 3, 5, 7, 11, 13, 17, 19, 23, 29};

    public int firm(int n, int k) {
        if (!in(n, 0, 60) || !in(k, 2, 30)) {
            return -1;
        }
        int[] by = new int[n + 1];
        for (int m = 1; m <= n; m++) {
            for (int t : TAKES) {
                boolean otherWins = t <= m && (m == t || by[m - t] > 0);
                if (by[m] == 0 && t <= k && t <= m && !otherWins) {
                    by[m] = t;
                }
            }
        }
        return by[n];
    }

    private int closings(String law) {
        int sum = 0;
        for (int q = 0; q < 40; q++) {
            sum += now.closing(law, q / 10, q % 10).size();
        }
        return sum;
    }

    public int law() {
        String signs = taken();
        int fault = signs.isEmpty() ? -1 : ruleFault(signs);
        if (fault >= 0) {
            return -100000 - fault;
        }
        int other = closings(signs.isEmpty() ? NO_RULE : signs);
        tell(other, closings(rule));
        return other - closings(rule);
    }

    public int wordings(int v) {
        if (!in(v, 0, 20)) {
            return -1;
        }
        int pairs = 0;
        for (int q = 99; q >= 0; q--) {
            boolean rest = true;
            for (int z = 0; z < 10; z++) {
                rest &= worth(v, z, q % 10) <= worth(v, q / 10, q % 10);
                rest &= worth(v, z, q / 10) <= worth(v, q % 10, q / 10);
            }
            if (rest) {
                pairs++;
                tell(q / 10, q % 10);
            }
        }
        if (pairs == 0) {
            tell();
        }
        return pairs;
    }

    private static int worth(int v, int own, int other) {
        return own == other ? v / 3 : own > other ? v - Math.abs(own - other) : v / 2 - own;
    }

    private int r;

    private int draw(int n) {
        r = (int) (r * 1103515245L + 12345L);
        return (int) ((r & 0xffffffffL) / 65536 % n);
    }

    public int years(int seed, int n) {
        if (!in(n, 1, 60)) {
            return -1;
        }
        State trial = now.copy();
        r = seed;
        int closed = 0;
        for (int i = 0; i < n; i++) {
            int what = draw(4);
            if (what < 2) {
                trial.tide();
            } else if (what == 2) {
                int topic = draw(4);
                int wording = draw(10);
                closed += trial.ask(rule, topic, wording).size();
            } else if (!trial.all.isEmpty()) {
                int oyster = draw(trial.all.size());
                trial.all.get(oyster).view = draw(16);
            }
        }
        tell(trial.open(), trial.all.stream().mapToInt(o -> o.pearl).sum());
        return closed;
    }

    public boolean keep(int i) {
        if (!in(i, 0, 2)) {
            return false;
        }
        kept[i] = now.copy();
        return true;
    }

    public boolean again(int i) {
        if (!in(i, 0, 2) || kept[i] == null) {
            return false;
        }
        now = kept[i].copy();
        undos.clear();
        return true;
    }

    public int count(int what) {
        return switch (what) {
            case 0 -> now.all.size();
            case 1 -> now.open();
            case 2 -> now.tide;
            case 3 -> now.asked;
            case 4 -> now.all.stream().mapToInt(o -> o.pearl).sum();
            case 5 -> now.all.stream().mapToInt(o -> o.fear).sum();
            case 6 -> sights.size();
            case 7 -> rumours.size();
            case 8 -> undos.size();
            case 9 -> told.length;
            case 10 -> text.length();
            default -> -100;
        };
    }

    public long row(int i) {
        if (!in(i, 0, told.length - 1)) {
            throw new NoSuchElementException();
        }
        return told[i];
    }
}
