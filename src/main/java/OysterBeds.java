import java.util.NoSuchElementException;

/**
 * Beds of oysters that are consulted shut. What each call does is said in ../shared/DOC.md, by
 * promises; words in capitals here are its terms. All room is made in the constructor, since
 * what a run makes is counted.
 */
public final class OysterBeds {
    public static final int NONE = -1;

    /** It is so already, or there is none. */
    private static final int NAUGHT = -2;
    private static final int MISSING = -3;
    private static final int NO_FAULT = -1;

    private static final int ROOM = 8;
    private static final int KINDS = 3;
    private static final int MOST_FEAR = 9;
    private static final int TOPICS = 4;
    private static final int WORDINGS = 10;
    private static final int QUESTIONS = TOPICS * WORDINGS;
    private static final int VIEWS = 16;
    private static final int MOST_PEARL = 99;
    private static final int MOST_ASKED = 9999;

    private static final int SIGN_ROOM = 80;
    private static final int LINE_SIGNS = 39;
    private static final int RULE_SIGNS = 40;
    private static final int SEASON_SIGNS = 60;
    private static final int UNDOS = 15;
    private static final int SHELVES = 3;
    private static final int SEEN_ROOM = 10;
    private static final int HEARD_ROOM = 12;
    private static final int ROW_ROOM = 12;
    private static final int TENTHS = 10;

    private final Text text = new Text();
    private final Told told = new Told();
    private final Bed bed = new Bed();
    /** A second bed: what was ahead of an act, or what is tried out. */
    private final Bed spare = new Bed();
    private final Past past = new Past();
    private final Sightings sightings = new Sightings();
    private final Hearsay hearsay = new Hearsay();
    private Law rule = new Law();
    /** The law that is read next; it changes place with the rule once it holds. */
    private Law draft = new Law();

    public OysterBeds() {
    }

    // ---- oysters

    public int sign(int v) {
        if (text.length + 4 > SIGN_ROOM) {
            return NONE;
        }
        for (int shift = 24; shift >= 0; shift -= 8) {
            text.put((char) (v >>> shift & 255));
        }
        return text.length;
    }

    public boolean end(int n) {
        return text.cutTo(n);
    }

    public int oysters() {
        int fault = text.faultAsLines(ROOM - bed.size);
        if (fault != NO_FAULT) {
            text.cutTo(0);
            return -1 - fault;
        }
        int lines = 0;
        for (int p = 0; p < text.length; p += 5) {
            bed.admit(kindOf(text.at(p)), text.digitAt(p + 1), text.twoDigitsAt(p + 2));
            lines++;
        }
        text.cutTo(0);
        if (lines > 0) {
            past.clear();
        }
        return lines;
    }

    public int rule() {
        int fault = draft.read(text);
        text.cutTo(0);
        if (fault != NO_FAULT) {
            return -1 - fault;
        }
        Law old = rule;
        rule = draft;
        draft = old;
        return 0;
    }

    public int oyster(int oyster, int what) throws NoSuchElementException {
        if (!bed.has(oyster)) {
            throw new NoSuchElementException("no such oyster");
        }
        switch (what) {
            case 0:
                return bed.kind[oyster];
            case 1:
                return bed.fear[oyster];
            case 2:
                return bed.view[oyster];
            case 3:
                return bed.shut[oyster];
            case 4:
                return bed.pearl[oyster];
            default:
                throw new NoSuchElementException("nothing such of an oyster");
        }
    }

    public int sheet(int kind, int n, int f, int step) {
        if (kind < 0 || kind > 3 || n > ROOM) {
            return NONE;
        }
        if (kind == 3) {
            bed.takeFears(kind, 0, 0, 0);
            return MISSING;
        }
        if (n < 0) {
            return NAUGHT;
        }
        bed.takeFears(kind, n, f, step);
        return bed.fears();
    }

    // ---- what is done

    public int puts(int topic, int wording) {
        if (!isQuestion(topic, wording)) {
            return NONE;
        }
        past.push(bed);
        int closed = bed.ask(rule, topic, wording);
        told.start();
        told.add(closed);
        told.add(bed.openOnes());
        return Integer.bitCount(closed);
    }

    public int tides(int n) {
        if (n < 0 || n > 60) {
            return NONE;
        }
        past.push(bed);
        int opened = bed.goBy(n);
        told.start();
        told.add(opened);
        return Integer.bitCount(bed.openOnes());
    }

    public int stills(int oyster, int v) {
        spare.copyFrom(bed);
        return doneWith(bed.soothe(oyster, v));
    }

    public int holds(int oyster, int v) {
        spare.copyFrom(bed);
        return doneWith(bed.persuade(oyster, v));
    }

    public int knife(int oyster) {
        spare.copyFrom(bed);
        return doneWith(bed.cut(oyster));
    }

    public int season() {
        int fault = text.faultAsSeason();
        if (fault != NO_FAULT) {
            text.cutTo(0);
            return -1 - fault;
        }
        spare.copyFrom(bed);
        int done = 0;
        boolean refused = false;
        for (int p = 0; p < text.length && !refused; p += 1 + Text.digitsBehind(text.at(p))) {
            if (actAt(p) < 0) {
                refused = true;
            } else {
                done++;
            }
        }
        text.cutTo(0);
        if (done > 0) {
            past.push(spare);
        }
        told.start();
        told.add(refused ? 1 : 0);
        told.add(Integer.bitCount(bed.openOnes()));
        return done;
    }

    public int undo() {
        return past.pop(bed) ? past.size : NONE;
    }

    // ---- questions, wordings

    public int would(int topic, int wording) {
        if (!isQuestion(topic, wording)) {
            return NONE;
        }
        int closing = bed.closing(rule, topic, wording);
        told.start();
        told.add(closing);
        told.add(Integer.bitCount(closing & bed.yesOnes(topic)));
        return Integer.bitCount(closing);
    }

    public int words(int topic, int n) {
        if (!isQuestion(topic, 0) || n < 0 || n > ROOM) {
            return NONE;
        }
        int least = NAUGHT;
        int byLeast = 0;
        int ways = 0;
        for (int wording = 0; wording < WORDINGS; wording++) {
            int closing = bed.closing(rule, topic, wording);
            if (Integer.bitCount(closing) == n) {
                ways++;
                if (ways == 1) {
                    least = wording;
                    byLeast = closing;
                }
            }
        }
        if (ways > 0) {
            told.start();
            told.add(ways);
            told.add(byLeast);
        }
        return least;
    }

    public int honest() {
        int least = NAUGHT;
        int ways = 0;
        int open = bed.openOnes();
        for (int question = 0; question < QUESTIONS; question++) {
            if (closingBy(question) == (open & bed.yesOnes(question / WORDINGS))) {
                ways++;
                if (ways == 1) {
                    least = question;
                }
            }
        }
        if (ways > 0) {
            told.start();
            told.add(ways);
        }
        return least;
    }

    public int shyest(int topic, int wording) {
        if (!isQuestion(topic, wording)) {
            return NONE;
        }
        int closing = bed.closing(rule, topic, wording);
        int shyest = 0;
        int most = -1;
        told.start();
        for (int kind = 0; kind < KINDS; kind++) {
            int such = Integer.bitCount(closing & bed.onesOfKind(kind));
            told.add(such);
            if (such > most) {
                most = such;
                shyest = kind;
            }
        }
        return shyest;
    }

    public int loudest() {
        int loudest = 0;
        int most = -1;
        int fewest = ROOM;
        for (int question = 0; question < QUESTIONS; question++) {
            int closing = Integer.bitCount(closingBy(question));
            fewest = Math.min(fewest, closing);
            if (closing > most) {
                most = closing;
                loudest = question;
            }
        }
        told.start();
        told.add(most);
        told.add(fewest);
        return loudest;
    }

    public int repeats(int topic, int wording, int n) {
        if (!isQuestion(topic, wording) || n < 1 || n > 20) {
            return NONE;
        }
        spare.copyFrom(bed);
        int all = 0;
        told.start();
        for (int i = 0; i < n; i++) {
            int closed = Integer.bitCount(spare.ask(rule, topic, wording));
            spare.goBy(1);
            all += closed;
            if (i < 12) {
                told.add(closed);
            }
        }
        return all;
    }

    // ---- tides

    public int later(int n) {
        if (n < 0 || n > 99) {
            return NONE;
        }
        int open = bed.openIn(n);
        told.start();
        told.add(Integer.bitCount(open));
        return open;
    }

    public int calm() {
        int longest = 0;
        for (int i = 0; i < bed.size; i++) {
            longest = Math.max(longest, bed.shut[i]);
        }
        return longest;
    }

    public int opens(int n) {
        if (n < 0 || n > ROOM) {
            return NONE;
        }
        int last = calm();
        for (int tides = 0; tides <= last; tides++) {
            int open = bed.openIn(tides);
            if (Integer.bitCount(open) >= n) {
                told.start();
                told.add(open);
                return tides;
            }
        }
        return NAUGHT;
    }

    public int line() {
        int last = calm();
        told.start();
        for (int shut = 0; shut <= last; shut++) {
            for (int i = 0; i < bed.size; i++) {
                if (bed.shut[i] == shut) {
                    told.add(i);
                }
            }
        }
        return bed.size;
    }

    // ---- what the beds hold

    public int yes(int topic) {
        if (!isQuestion(topic, 0)) {
            return NONE;
        }
        int yes = bed.yesOnes(topic);
        told.start();
        told.add(Integer.bitCount(yes & bed.openOnes()));
        for (int kind = 0; kind < KINDS; kind++) {
            told.add(Integer.bitCount(yes & bed.onesOfKind(kind)));
        }
        return Integer.bitCount(yes);
    }

    public int whole() {
        int view = Views.ofMost(bed, bed.all());
        told.start();
        told.add(Integer.bitCount(Views.onesWith(bed, view)));
        told.add(Views.ties(bed));
        return view;
    }

    public int middle() {
        int middle = 0;
        for (int view = 1; view < VIEWS; view++) {
            if (Views.farFromAll(bed, view) < Views.farFromAll(bed, middle)) {
                middle = view;
            }
        }
        told.start();
        told.add(Views.farFromAll(bed, middle));
        told.add(Views.farthestFrom(bed, middle));
        return middle;
    }

    public int nearest() {
        int least = TOPICS + 1;
        int first = 0;
        int second = 0;
        for (int i = 0; i < bed.size; i++) {
            for (int j = i + 1; j < bed.size; j++) {
                int far = Integer.bitCount(bed.view[i] ^ bed.view[j]);
                if (far < least) {
                    least = far;
                    first = i;
                    second = j;
                }
            }
        }
        if (least > TOPICS) {
            return NAUGHT;
        }
        told.start();
        told.add(first);
        told.add(second);
        return least;
    }

    public int sorts() {
        int sorts = 0;
        int largest = 0;
        for (int i = 0; i < bed.size; i++) {
            int alike = Views.onesWith(bed, bed.view[i]);
            boolean isFirst = (alike & (1 << i) - 1) == 0;
            if (isFirst) {
                sorts++;
                if (Integer.bitCount(alike) > Integer.bitCount(largest)) {
                    largest = alike;
                }
            }
        }
        told.start();
        if (sorts > 0) {
            told.add(largest);
        }
        return sorts;
    }

    public int tells() {
        int fewest = VIEWS - 1;
        for (int topics = 0; topics < VIEWS; topics++) {
            if (Integer.bitCount(topics) < Integer.bitCount(fewest)
                    && Views.areToldBy(bed, topics)) {
                fewest = topics;
            }
        }
        told.start();
        told.add(fewest);
        return Integer.bitCount(fewest);
    }

    public int jury() {
        int wanted = Views.ofMost(bed, bed.all());
        int jury = 0;
        for (int set = 1; set <= bed.all(); set++) {
            int size = Integer.bitCount(set);
            boolean fewer = jury == 0 || size < Integer.bitCount(jury);
            if (size % 2 == 1 && fewer && Views.ofMost(bed, set) == wanted) {
                jury = set;
            }
        }
        if (jury == 0) {
            return NAUGHT;
        }
        told.start();
        told.add(jury);
        return Integer.bitCount(jury);
    }

    // ---- what one decides

    public int power(int oyster) {
        if (!bed.has(oyster)) {
            return NONE;
        }
        int such = 0;
        for (int set = 0; set <= bed.all(); set++) {
            if (Council.turnsBy(bed, set, oyster)) {
                such++;
            }
        }
        told.start();
        told.addFraction(such, 1L << bed.size - 1);
        return 0;
    }

    public int pivots(int oyster) {
        if (!bed.has(oyster)) {
            return NONE;
        }
        long orders = 0;
        for (int set = 0; set <= bed.all(); set++) {
            if (Council.turnsBy(bed, set, oyster)) {
                int ahead = Integer.bitCount(set);
                orders += Chances.ordersOf(ahead) * Chances.ordersOf(bed.size - 1 - ahead);
            }
        }
        told.start();
        told.addFraction(orders, Chances.ordersOf(bed.size));
        return 0;
    }

    public int rules() {
        if (bed.size == 0) {
            return NAUGHT;
        }
        int fewest = bed.all();
        for (int set = 1; set <= bed.all(); set++) {
            if (Integer.bitCount(set) < Integer.bitCount(fewest) && Council.decides(bed, set)) {
                fewest = set;
            }
        }
        told.start();
        told.add(fewest);
        told.add(Views.topicsAlike(bed, fewest));
        return Integer.bitCount(fewest);
    }

    public int parties() {
        int best = 0;
        for (int set = 1; set <= bed.all(); set++) {
            if (Council.apart(bed, set) < Council.apart(bed, best)) {
                best = set;
            }
        }
        told.start();
        told.add(best);
        told.add(Council.weight(bed, best));
        return Council.apart(bed, best);
    }

    // ---- what one holds

    public int seen(int topic, int wording, int n) {
        if (!isQuestion(topic, wording) || n < 0 || n > ROOM || !sightings.hasRoom()) {
            return NONE;
        }
        return sightings.note(topic, wording, n);
    }

    public int forget() {
        return sightings.clear();
    }

    public int cares(int oyster) {
        if (!bed.has(oyster)) {
            return NONE;
        }
        int views = sightings.viewsOf(bed, rule, oyster);
        told.start();
        told.add(Integer.bitCount(views));
        if (views != 0) {
            told.add(Views.leastIn(views));
            told.add(Views.greatestIn(views));
        }
        return views;
    }

    public int next(int oyster) {
        if (!bed.has(oyster)) {
            return NONE;
        }
        int views = sightings.viewsOf(bed, rule, oyster);
        if (views == 0) {
            return NAUGHT;
        }
        int best = 0;
        int fewest = VIEWS + 1;
        for (int question = 0; question < QUESTIONS; question++) {
            int left = mostLeft(views, oyster, question / WORDINGS, question % WORDINGS);
            if (left < fewest) {
                fewest = left;
                best = question;
            }
        }
        told.start();
        told.add(fewest);
        return best;
    }

    // ---- which one it was

    public int heard(int what, int v) {
        if (!Hearsay.canBe(what, v) || !hearsay.hasRoom()) {
            return NONE;
        }
        return hearsay.note(what, v);
    }

    public int denies() {
        return hearsay.clear();
    }

    public int fits() {
        int ones = hearsay.onesOf(bed);
        told.start();
        told.add(Integer.bitCount(ones));
        return ones;
    }

    public int asks() {
        int ones = hearsay.onesOf(bed);
        if (ones == 0) {
            return NAUGHT;
        }
        int best = 0;
        int fewest = ROOM + 1;
        for (int asked = 0; asked < 50; asked++) {
            if (Hearsay.canBe(asked / 10, asked % 10)) {
                int so = Integer.bitCount(ones & Hearsay.onesSuch(bed, asked / 10, asked % 10));
                int left = Math.max(so, Integer.bitCount(ones) - so);
                if (left < fewest) {
                    fewest = left;
                    best = asked;
                }
            }
        }
        told.start();
        told.add(fewest);
        return best;
    }

    // ---- chances

    public int slips(int topic, int wording, int p, int n) {
        if (!isQuestion(topic, wording) || p < 0 || p > TENTHS || n < 0 || n > ROOM) {
            return NONE;
        }
        int closing = Integer.bitCount(bed.closing(rule, topic, wording));
        int open = Integer.bitCount(bed.openOnes());
        told.start();
        told.addFraction(Chances.slipsTo(n, closing, open - closing, p),
                Chances.raised(TENTHS, open));
        return 0;
    }

    public int sound(int a, int b, int c, int n, int k) {
        if (!isTenths(a) || !isTenths(b) || !isTenths(c) || n < 0 || n > ROOM || k < 0 || k > n) {
            return NONE;
        }
        long so = a * Chances.justThese(b, n, k);
        long either = so + (TENTHS - a) * Chances.justThese(c, n, k);
        if (either == 0) {
            return NAUGHT;
        }
        told.start();
        told.addFraction(so, either);
        return 0;
    }

    // ---- a game, laws, wordings, years

    public int firm(int n, int k) {
        if (n < 0 || n > 60 || k < 2 || k > 30) {
            return NONE;
        }
        return Games.firstTake(n, k);
    }

    public int law() {
        int fault = draft.read(text);
        text.cutTo(0);
        if (fault != NO_FAULT) {
            return -100000 - fault;
        }
        int byDraft = bed.closings(draft);
        int byRule = bed.closings(rule);
        told.start();
        told.add(byDraft);
        told.add(byRule);
        return byDraft - byRule;
    }

    public int wordings(int v) {
        if (v < 0 || v > 20) {
            return NONE;
        }
        int pairs = 0;
        told.start();
        for (int x = 0; x < WORDINGS; x++) {
            for (int y = 0; y < WORDINGS; y++) {
                if (Games.isAtRest(v, x, y)) {
                    pairs++;
                    if (pairs == 1) {
                        told.add(x);
                        told.add(y);
                    }
                }
            }
        }
        return pairs;
    }

    public int years(int seed, int n) {
        if (n < 1 || n > 60) {
            return NONE;
        }
        spare.copyFrom(bed);
        int closed = 0;
        int r = seed;
        for (int i = 0; i < n; i++) {
            r = Games.stirred(r);
            int what = Games.drawn(r, 4);
            if (what < 2) {
                spare.goBy(1);
            } else if (what == 2 || spare.size > 0) {
                int second = Games.stirred(r);
                r = Games.stirred(second);
                if (what == 2) {
                    int topic = Games.drawn(second, TOPICS);
                    int wording = Games.drawn(r, WORDINGS);
                    closed += Integer.bitCount(spare.ask(rule, topic, wording));
                } else {
                    spare.persuade(Games.drawn(second, spare.size), Games.drawn(r, VIEWS));
                }
            }
        }
        told.start();
        told.add(spare.openOnes());
        told.add(spare.pearls());
        return closed;
    }

    // ---- kept

    public boolean keep(int i) {
        return past.store(i, bed);
    }

    public boolean again(int i) {
        return past.fetch(i, bed);
    }

    public int count(int what) {
        switch (what) {
            case 0:
                return bed.size;
            case 1:
                return bed.openOnes();
            case 2:
                return bed.tide;
            case 3:
                return bed.asked;
            case 4:
                return bed.pearls();
            case 5:
                return bed.fears();
            case 6:
                return sightings.size;
            case 7:
                return hearsay.size;
            case 8:
                return past.size;
            case 9:
                return told.size;
            case 10:
                return text.length;
            default:
                return -100;
        }
    }

    public long row(int i) throws NoSuchElementException {
        if (i < 0 || i >= told.size) {
            throw new NoSuchElementException("no such number of the row");
        }
        return told.numbers[i];
    }

    // ---- inside

    private static boolean isQuestion(int topic, int wording) {
        return topic >= 0 && topic < TOPICS && wording >= 0 && wording < WORDINGS;
    }

    private static boolean isTenths(int tenths) {
        return tenths >= 0 && tenths <= TENTHS;
    }

    private static int kindOf(char letter) {
        return letter == 'n' ? 0 : letter == 'p' ? 1 : 2;
    }

    /** Keeps what was ahead of an act (in the spare bed), if the act was not refused. */
    private int doneWith(int answer) {
        if (answer >= 0) {
            past.push(spare);
        }
        return answer;
    }

    /** Does the act of a season that stands at p: below 0 if it is refused. */
    private int actAt(int p) {
        int first = text.digitAt(p + 1);
        switch ((int) text.at(p)) {
            case 'n':
                return bed.goBy(first);
            case 'q':
                return bed.ask(rule, first, text.digitAt(p + 2));
            case 'f':
                return bed.soothe(first, text.digitAt(p + 2));
            case 'v':
                return bed.persuade(first, text.twoDigitsAt(p + 2));
            case 'k':
                return bed.cut(first);
            default:
                return NONE;
        }
    }

    private int closingBy(int question) {
        return bed.closing(rule, question / WORDINGS, question % WORDINGS);
    }

    /**
     * How many of the views are left at most by a question. Just the one oyster's own closing
     * hangs on its view, and by the one bit of the topic: so the views part in two at most.
     */
    private int mostLeft(int views, int oyster, int topic, int wording) {
        int all = Integer.bitCount(views);
        if (bed.closes(rule, oyster, 0, wording) == bed.closes(rule, oyster, 1, wording)) {
            return all;
        }
        int yes = Integer.bitCount(views & Views.withYes(topic));
        return Math.max(yes, all - yes);
    }

    /** THE TEXT, and the two forms of it that hold no expression. */
    private static final class Text {
        private final char[] signs = new char[SIGN_ROOM];
        private int length;

        void put(char sign) {
            if (length < SIGN_ROOM) {
                signs[length] = sign;
                length++;
            }
        }

        boolean cutTo(int n) {
            if (n < 0 || n > length) {
                return false;
            }
            length = n;
            return true;
        }

        char at(int p) {
            return p < 0 || p >= length ? 0 : signs[p];
        }

        /** The digit at p, or -1. */
        int digitAt(int p) {
            char sign = at(p);
            return sign >= '0' && sign <= '9' ? sign - '0' : -1;
        }

        int twoDigitsAt(int p) {
            return 10 * digitAt(p) + digitAt(p + 1);
        }

        /** Where it can't be LINES for a bed with so much room, or NO_FAULT. */
        int faultAsLines(int room) {
            int most = Math.min(length, LINE_SIGNS);
            for (int p = 0; p < most; p++) {
                if (!canStandInLines(p, room)) {
                    return p;
                }
            }
            if (length > LINE_SIGNS) {
                return LINE_SIGNS;
            }
            return length == 0 || length % 5 == 4 ? NO_FAULT : length;
        }

        private boolean canStandInLines(int p, int room) {
            char sign = at(p);
            switch (p % 5) {
                case 0:
                    return p / 5 < room && (sign == 'n' || sign == 'p' || sign == 'r');
                case 3:
                    return digitAt(p) >= 0 && twoDigitsAt(p - 1) < VIEWS;
                case 4:
                    return sign == ';';
                default:
                    return digitAt(p) >= 0;
            }
        }

        /** Where it can't be A SEASON, or NO_FAULT. */
        int faultAsSeason() {
            int most = Math.min(length, SEASON_SIGNS);
            int left = 0;
            int greatest = 9;
            for (int p = 0; p < most; p++) {
                if (left == 0) {
                    left = digitsBehind(at(p));
                    greatest = at(p) == 'q' ? TOPICS - 1 : 9;
                    if (left == 0) {
                        return p;
                    }
                } else {
                    if (digitAt(p) < 0 || digitAt(p) > greatest) {
                        return p;
                    }
                    left--;
                    greatest = 9;
                }
            }
            if (length > SEASON_SIGNS) {
                return SEASON_SIGNS;
            }
            return left == 0 ? NO_FAULT : length;
        }

        /** How many digits follow the letter of an act; 0: it is none. */
        static int digitsBehind(char letter) {
            switch ((int) letter) {
                case 'n':
                case 'k':
                    return 1;
                case 'q':
                case 'f':
                    return 2;
                case 'v':
                    return 3;
                default:
                    return 0;
            }
        }
    }

    /** The ROW. */
    private static final class Told {
        private final long[] numbers = new long[ROW_ROOM];
        private int size;

        void start() {
            size = 0;
        }

        void add(long number) {
            if (size < ROW_ROOM) {
                numbers[size] = number;
                size++;
            }
        }

        /** Of upper not below 0 and lower above 0. */
        void addFraction(long upper, long lower) {
            long common = commonOf(upper, lower);
            if (common <= 0) {
                return;
            }
            add(upper / common);
            add(lower / common);
        }

        private static long commonOf(long a, long b) {
            long common = a;
            long rest = b;
            for (int step = 0; step < 1000 && rest != 0; step++) {
                long newRest = common % rest;
                common = rest;
                rest = newRest;
            }
            return common;
        }
    }

    /** The OYSTERS, TIDE and ASKED: all that undo() brings back. */
    private static final class Bed {
        private final int[] kind = new int[ROOM];
        private final int[] fear = new int[ROOM];
        private final int[] view = new int[ROOM];
        private final int[] shut = new int[ROOM];
        private final int[] pearl = new int[ROOM];
        private int size;
        private int tide;
        private int asked;

        void copyFrom(Bed other) {
            for (int i = 0; i < ROOM; i++) {
                kind[i] = other.kind[i];
                fear[i] = other.fear[i];
                view[i] = other.view[i];
                shut[i] = other.shut[i];
                pearl[i] = other.pearl[i];
            }
            size = other.size;
            tide = other.tide;
            asked = other.asked;
        }

        void admit(int itsKind, int itsFear, int itsView) {
            if (size < ROOM) {
                kind[size] = itsKind;
                fear[size] = itsFear;
                view[size] = itsView;
                shut[size] = 0;
                pearl[size] = 0;
                size++;
            }
        }

        boolean has(int oyster) {
            return oyster >= 0 && oyster < size;
        }

        int all() {
            return (1 << size) - 1;
        }

        int openOnes() {
            return openIn(0);
        }

        int openIn(int tides) {
            int ones = 0;
            for (int i = 0; i < size; i++) {
                if (shut[i] <= tides) {
                    ones |= 1 << i;
                }
            }
            return ones;
        }

        int yesOnes(int topic) {
            int ones = 0;
            for (int i = 0; i < size; i++) {
                ones |= (view[i] >> topic & 1) << i;
            }
            return ones;
        }

        int onesOfKind(int wanted) {
            int ones = 0;
            for (int i = 0; i < size; i++) {
                if (kind[i] == wanted) {
                    ones |= 1 << i;
                }
            }
            return ones;
        }

        int pearls() {
            int all = 0;
            for (int i = 0; i < size; i++) {
                all += pearl[i];
            }
            return all;
        }

        int fears() {
            int all = 0;
            for (int i = 0; i < size; i++) {
                all += fear[i];
            }
            return all;
        }

        /** How many others of its KIND are OPEN. */
        int likesOpen(int oyster) {
            int likes = 0;
            for (int i = 0; i < size; i++) {
                if (i != oyster && kind[i] == kind[oyster] && shut[i] == 0) {
                    likes++;
                }
            }
            return likes;
        }

        void takeFears(int sheetKind, int n, int f, int step) {
            for (int i = 0; i < size; i++) {
                int entry = i < n ? f + i * step : 0;
                if (sheetKind == 0) {
                    entry = (byte) entry;
                } else if (sheetKind == 1) {
                    entry = (short) entry;
                }
                fear[i] = Math.max(0, Math.min(MOST_FEAR, entry));
            }
        }

        boolean closes(Law law, int oyster, int yes, int wording) {
            return has(oyster) && shut[oyster] == 0 && law.value(this, oyster, yes, wording) > 0;
        }

        int closing(Law law, int topic, int wording) {
            int ones = 0;
            for (int i = 0; i < size; i++) {
                if (shut[i] == 0 && law.value(this, i, view[i] >> topic & 1, wording) > 0) {
                    ones |= 1 << i;
                }
            }
            return ones;
        }

        /** How many would CLOSE by all questions together. */
        int closings(Law law) {
            int all = 0;
            for (int question = 0; question < QUESTIONS; question++) {
                all += Integer.bitCount(closing(law, question / WORDINGS, question % WORDINGS));
            }
            return all;
        }

        /** A question is asked: which CLOSE. */
        int ask(Law law, int topic, int wording) {
            int closed = closing(law, topic, wording);
            for (int i = 0; i < size; i++) {
                if ((closed >> i & 1) == 1) {
                    shut[i] += 1 + fear[i] / 2;
                    pearl[i] = Math.min(MOST_PEARL, pearl[i] + 1);
                }
            }
            asked = Math.min(MOST_ASKED, asked + 1);
            return closed;
        }

        /** TIDES go by: which came to be OPEN. */
        int goBy(int tides) {
            int wereOpen = openOnes();
            for (int i = 0; i < size; i++) {
                shut[i] = Math.max(0, shut[i] - tides);
            }
            tide += tides;
            return openOnes() & ~wereOpen;
        }

        int soothe(int oyster, int v) {
            if (!has(oyster) || v < 0 || v > MOST_FEAR) {
                return NONE;
            }
            int was = fear[oyster];
            fear[oyster] = v;
            return was == v ? NAUGHT : 10 + was;
        }

        int persuade(int oyster, int v) {
            if (!has(oyster) || v < 0 || v >= VIEWS) {
                return NONE;
            }
            int was = view[oyster];
            view[oyster] = v;
            return was == v ? NAUGHT : 20 + was;
        }

        int cut(int oyster) {
            if (!has(oyster)) {
                return NONE;
            }
            if (shut[oyster] == 0) {
                return NAUGHT;
            }
            int had = pearl[oyster];
            shut[oyster] = 0;
            pearl[oyster] = 0;
            return had;
        }
    }

    /**
     * A RULE, read into the order in which it is reckoned: NUMBERS as they are, letters and
     * operators as their signs above all NUMBERS.
     */
    private static final class Law {
        private static final int ABOVE_NUMBERS = 1000;
        private static final int MOST_DIGITS = 3;
        private static final int MOST_DEPTH = 4;
        /** The minus ahead of a thing, which binds otherwise; no text can hold this sign. */
        private static final int NEGATION = 256;
        private static final char[] NO_RULE = {'v', '*', '9', '-', 'f', '+', 'w'};

        private final int[] code = new int[RULE_SIGNS];
        private int length;
        /** Operators and open brackets that wait for what is behind them. */
        private final int[] waiting = new int[RULE_SIGNS];
        private int waits;
        private final boolean[] compared = new boolean[MOST_DEPTH + 1];
        private int depth;
        /** How many digits the NUMBER has that stands last; 0: none stands last. */
        private int digits;
        private boolean isBehindThing;
        private final int[] stack = new int[RULE_SIGNS];

        Law() {
            start();
            readNone();
            release(0);
        }

        /** Reads the text: where it can't be a RULE, or NO_FAULT. */
        int read(Text text) {
            start();
            int fault = text.length == 0 ? readNone() : readSigns(text);
            release(0);
            return fault;
        }

        private int readNone() {
            for (int i = 0; i < NO_RULE.length; i++) {
                take(NO_RULE[i]);
            }
            return NO_FAULT;
        }

        private int readSigns(Text text) {
            int most = Math.min(text.length, RULE_SIGNS);
            for (int p = 0; p < most; p++) {
                if (!take(text.at(p))) {
                    return p;
                }
            }
            if (text.length > RULE_SIGNS) {
                return RULE_SIGNS;
            }
            return isBehindThing && depth == 0 ? NO_FAULT : most;
        }

        private void start() {
            length = 0;
            waits = 0;
            depth = 0;
            compared[0] = false;
            digits = 0;
            isBehindThing = false;
        }

        /** Takes one sign more, if it can stand here. */
        private boolean take(char sign) {
            if (sign >= '0' && sign <= '9') {
                return takeDigit(sign - '0');
            }
            digits = 0;
            return isBehindThing ? takeBehindThing(sign) : takeAheadOfThing(sign);
        }

        private boolean takeDigit(int digit) {
            if (digits == MOST_DIGITS || digits == 0 && isBehindThing) {
                return false;
            }
            if (digits == 0) {
                emit(digit);
            } else if (length > 0) {
                code[length - 1] = 10 * code[length - 1] + digit;
            }
            digits++;
            isBehindThing = true;
            return true;
        }

        private boolean takeAheadOfThing(char sign) {
            if (sign == '-') {
                push(NEGATION);
                return true;
            }
            if (sign == '(') {
                if (depth >= MOST_DEPTH) {
                    return false;
                }
                depth++;
                compared[depth] = false;
                push(sign);
                return true;
            }
            if (!isLetter(sign)) {
                return false;
            }
            emit(ABOVE_NUMBERS + sign);
            isBehindThing = true;
            return true;
        }

        private boolean takeBehindThing(char sign) {
            if (sign == ')') {
                if (depth == 0) {
                    return false;
                }
                depth--;
                release(1);
                waits = Math.max(0, waits - 1);
                return true;
            }
            int strength = strengthOf(sign);
            if (strength == 0 || strength == 1 && compared[depth]) {
                return false;
            }
            if (strength == 1) {
                compared[depth] = true;
            }
            release(strength);
            push(sign);
            isBehindThing = false;
            return true;
        }

        private void emit(int item) {
            if (length < RULE_SIGNS) {
                code[length] = item;
                length++;
            }
        }

        private void push(int operator) {
            if (waits < RULE_SIGNS) {
                waiting[waits] = operator;
                waits++;
            }
        }

        /** Lets those that bind as much or more come, back to an open bracket or the start. */
        private void release(int strength) {
            while (waits > 0 && waiting[waits - 1] != '('
                    && strengthOf(waiting[waits - 1]) >= strength) {
                waits--;
                emit(ABOVE_NUMBERS + waiting[waits]);
            }
        }

        private static boolean isLetter(char sign) {
            return sign == 'f' || sign == 'v' || sign == 'k' || sign == 'w' || sign == 'c'
                    || sign == 'p' || sign == 'n';
        }

        /** How much an operator binds; 0: it is none. */
        private static int strengthOf(int sign) {
            switch (sign) {
                case '<':
                case '>':
                case '=':
                    return 1;
                case '+':
                case '-':
                    return 2;
                case '*':
                case '/':
                    return 3;
                case NEGATION:
                    return 4;
                default:
                    return 0;
            }
        }

        /** What it tells of an oyster that holds yes (1) or no (0) of what is asked. */
        int value(Bed bed, int oyster, int yes, int wording) {
            int top = 0;
            for (int i = 0; i < length; i++) {
                int sign = code[i] - ABOVE_NUMBERS;
                if (sign == NEGATION) {
                    if (top < 1) {
                        return 0;
                    }
                    stack[top - 1] = -stack[top - 1];
                } else if (sign < 0 || sign >= 'a') {
                    if (top >= RULE_SIGNS) {
                        return 0;
                    }
                    stack[top] = sign < 0 ? code[i] : letter(sign, bed, oyster, yes, wording);
                    top++;
                } else {
                    if (top < 2) {
                        return 0;
                    }
                    top--;
                    stack[top - 1] = joined(sign, stack[top - 1], stack[top]);
                }
            }
            return top == 1 ? stack[0] : 0;
        }

        private static int letter(int sign, Bed bed, int oyster, int yes, int wording) {
            if (!bed.has(oyster)) {
                return 0;
            }
            switch (sign) {
                case 'f':
                    return bed.fear[oyster];
                case 'v':
                    return yes;
                case 'k':
                    return bed.kind[oyster];
                case 'w':
                    return wording;
                case 'c':
                    return bed.likesOpen(oyster);
                case 'p':
                    return bed.pearl[oyster];
                case 'n':
                    return bed.tide % 7;
                default:
                    return 0;
            }
        }

        private static int joined(int operator, int a, int b) {
            switch (operator) {
                case '<':
                    return a < b ? 1 : 0;
                case '>':
                    return a > b ? 1 : 0;
                case '=':
                    return a == b ? 1 : 0;
                case '+':
                    return a + b;
                case '-':
                    return a - b;
                case '*':
                    return a * b;
                case '/':
                    return b == 0 ? 0 : a / b;
                default:
                    return 0;
            }
        }
    }

    /** What can be undone, the latest last, and what is kept under numbers. */
    private static final class Past {
        private final Bed[] undos = new Bed[UNDOS];
        /** Where the next one comes; it goes round, so that the oldest gives way. */
        private int place;
        private int size;
        private final Bed[] shelves = new Bed[SHELVES];
        private final boolean[] isKept = new boolean[SHELVES];

        Past() {
            for (int i = 0; i < UNDOS; i++) {
                undos[i] = new Bed();
            }
            for (int i = 0; i < SHELVES; i++) {
                shelves[i] = new Bed();
            }
        }

        void clear() {
            size = 0;
        }

        void push(Bed bed) {
            undos[place].copyFrom(bed);
            place = (place + 1) % UNDOS;
            size = Math.min(UNDOS, size + 1);
        }

        boolean pop(Bed bed) {
            if (size == 0) {
                return false;
            }
            place = (place + UNDOS - 1) % UNDOS;
            size--;
            bed.copyFrom(undos[place]);
            return true;
        }

        boolean store(int i, Bed bed) {
            if (i < 0 || i >= SHELVES) {
                return false;
            }
            shelves[i].copyFrom(bed);
            isKept[i] = true;
            return true;
        }

        /** Oysters never go: as many as when it was kept means that none came since. */
        boolean fetch(int i, Bed bed) {
            if (i < 0 || i >= SHELVES || !isKept[i] || shelves[i].size != bed.size) {
                return false;
            }
            bed.copyFrom(shelves[i]);
            clear();
            return true;
        }
    }

    /** What the VIEWS of a bed are together. */
    private static final class Views {
        /** Of each TOPIC the VIEWS (as bits) that hold yes of it. */
        private static final int[] WITH_YES = {0xAAAA, 0xCCCC, 0xF0F0, 0xFF00};

        static int withYes(int topic) {
            return topic < 0 || topic >= TOPICS ? 0 : WITH_YES[topic];
        }

        /** Of VIEWS told as bits the least one. */
        static int leastIn(int views) {
            int least = 0;
            while (least < VIEWS && (views >> least & 1) == 0) {
                least++;
            }
            return least;
        }

        static int greatestIn(int views) {
            int greatest = VIEWS - 1;
            while (greatest > 0 && (views >> greatest & 1) == 0) {
                greatest--;
            }
            return greatest;
        }

        /** Of each TOPIC yes, if more in a set of OYSTERS hold yes than no. */
        static int ofMost(Bed bed, int set) {
            int view = 0;
            for (int topic = 0; topic < TOPICS; topic++) {
                if (2 * Integer.bitCount(bed.yesOnes(topic) & set) > Integer.bitCount(set)) {
                    view |= 1 << topic;
                }
            }
            return view;
        }

        static int ties(Bed bed) {
            int ties = 0;
            for (int topic = 0; topic < TOPICS; topic++) {
                if (2 * Integer.bitCount(bed.yesOnes(topic)) == bed.size) {
                    ties++;
                }
            }
            return ties;
        }

        static int onesWith(Bed bed, int view) {
            int ones = 0;
            for (int i = 0; i < bed.size; i++) {
                if (bed.view[i] == view) {
                    ones |= 1 << i;
                }
            }
            return ones;
        }

        static int farFromAll(Bed bed, int view) {
            int far = 0;
            for (int i = 0; i < bed.size; i++) {
                far += Integer.bitCount(bed.view[i] ^ view);
            }
            return far;
        }

        static int farthestFrom(Bed bed, int view) {
            int farthest = 0;
            for (int i = 0; i < bed.size; i++) {
                farthest = Math.max(farthest, Integer.bitCount(bed.view[i] ^ view));
            }
            return farthest;
        }

        /** Whether a set of TOPICS tells apart whatever two have other VIEWS. */
        static boolean areToldBy(Bed bed, int topics) {
            for (int i = 0; i < bed.size; i++) {
                for (int j = i + 1; j < bed.size; j++) {
                    int otherwise = bed.view[i] ^ bed.view[j];
                    if (otherwise != 0 && (otherwise & topics) == 0) {
                        return false;
                    }
                }
            }
            return true;
        }

        static int topicsAlike(Bed bed, int set) {
            int alike = 0;
            for (int topic = 0; topic < TOPICS; topic++) {
                int yes = bed.yesOnes(topic) & set;
                if (yes == 0 || yes == set) {
                    alike++;
                }
            }
            return alike;
        }
    }

    /** What sets of OYSTERS count, the bold more than the timid. */
    private static final class Council {
        static int weight(Bed bed, int set) {
            int weight = 0;
            for (int i = 0; i < bed.size; i++) {
                if ((set >> i & 1) == 1) {
                    weight += 10 - bed.fear[i];
                }
            }
            return weight;
        }

        /** How much a set and the others differ in what they count. */
        static int apart(Bed bed, int set) {
            int apart = 2 * weight(bed, set) - weight(bed, bed.all());
            return Math.abs(apart);
        }

        static boolean decides(Bed bed, int set) {
            return 2 * weight(bed, set) > weight(bed, bed.all());
        }

        /** Whether a set without an OYSTER does not decide, but does with it. */
        static boolean turnsBy(Bed bed, int set, int oyster) {
            int one = 1 << oyster;
            return (set & one) == 0 && !decides(bed, set) && decides(bed, set | one);
        }
    }

    /** What was seen: by which questions just how many would CLOSE. */
    private static final class Sightings {
        private final int[] topic = new int[SEEN_ROOM];
        private final int[] wording = new int[SEEN_ROOM];
        private final int[] closed = new int[SEEN_ROOM];
        private int size;

        boolean hasRoom() {
            return size < SEEN_ROOM;
        }

        int note(int itsTopic, int itsWording, int itsClosed) {
            if (hasRoom()) {
                topic[size] = itsTopic;
                wording[size] = itsWording;
                closed[size] = itsClosed;
                size++;
            }
            return size;
        }

        int clear() {
            int had = size;
            size = 0;
            return had;
        }

        /** The VIEWS (as bits) that an OYSTER can have by all that was seen. */
        int viewsOf(Bed bed, Law law, int oyster) {
            int views = (1 << VIEWS) - 1;
            for (int i = 0; i < size; i++) {
                int all = bed.closing(law, topic[i], wording[i]);
                int wanted = closed[i] - Integer.bitCount(all & ~(1 << oyster));
                int withYes = Views.withYes(topic[i]);
                if ((bed.closes(law, oyster, 1, wording[i]) ? 1 : 0) != wanted) {
                    views &= ~withYes;
                }
                if ((bed.closes(law, oyster, 0, wording[i]) ? 1 : 0) != wanted) {
                    views &= withYes;
                }
            }
            return views;
        }
    }

    /** What was heard of an oyster. */
    private static final class Hearsay {
        /** Up to which number each thing can be heard. */
        private static final int[] GREATEST = {2, 9, 3, 1, 9};

        private final int[] what = new int[HEARD_ROOM];
        private final int[] value = new int[HEARD_ROOM];
        private int size;

        static boolean canBe(int itsWhat, int v) {
            return itsWhat >= 0 && itsWhat < GREATEST.length && v >= 0 && v <= GREATEST[itsWhat];
        }

        boolean hasRoom() {
            return size < HEARD_ROOM;
        }

        int note(int itsWhat, int v) {
            if (hasRoom()) {
                what[size] = itsWhat;
                value[size] = v;
                size++;
            }
            return size;
        }

        int clear() {
            int had = size;
            size = 0;
            return had;
        }

        /** The OYSTERS that fit all that was heard. */
        int onesOf(Bed bed) {
            int ones = bed.all();
            for (int i = 0; i < size; i++) {
                ones &= onesSuch(bed, what[i], value[i]);
            }
            return ones;
        }

        /** The OYSTERS of which one thing is so. */
        static int onesSuch(Bed bed, int itsWhat, int v) {
            int ones = 0;
            for (int i = 0; i < bed.size; i++) {
                if (isSo(bed, i, itsWhat, v)) {
                    ones |= 1 << i;
                }
            }
            return ones;
        }

        private static boolean isSo(Bed bed, int oyster, int itsWhat, int v) {
            switch (itsWhat) {
                case 0:
                    return bed.kind[oyster] == v;
                case 1:
                    return bed.fear[oyster] >= v;
                case 2:
                    return (bed.view[oyster] >> v & 1) == 1;
                case 3:
                    return (bed.shut[oyster] == 0) == (v == 1);
                case 4:
                    return bed.pearl[oyster] >= v;
                default:
                    return false;
            }
        }
    }

    /** Numbers of ways; chances are in tenths, so that all stay whole. */
    private static final class Chances {
        static long raised(int base, int times) {
            long product = 1;
            for (int i = 0; i < times; i++) {
                product *= base;
            }
            return product;
        }

        static long ordersOf(int n) {
            long orders = 1;
            for (int i = 2; i <= n; i++) {
                orders *= i;
            }
            return orders;
        }

        static long setsOf(int k, int n) {
            if (k < 0 || k > n) {
                return 0;
            }
            long sets = 1;
            for (int i = 1; i <= k; i++) {
                sets = sets * (n - k + i) / i;
            }
            return sets;
        }

        /** Chance that just k told ones of n close, each by so many tenths. */
        static long justThese(int tenths, int n, int k) {
            return raised(tenths, k) * raised(TENTHS - tenths, n - k);
        }

        /** Chance that n close, if p tenths of either do otherwise. */
        static long slipsTo(int n, int closing, int staying, int p) {
            long chance = 0;
            for (int i = 0; i <= n; i++) {
                chance += justSoMany(TENTHS - p, closing, i) * justSoMany(p, staying, n - i);
            }
            return chance;
        }

        private static long justSoMany(int tenths, int n, int k) {
            return setsOf(k, n) * justThese(tenths, n, k);
        }
    }

    /** The game of firm and bed, the one of two firms, and draws. */
    private static final class Games {
        /** The least number by which who is first to take wins, or 0. */
        static int firstTake(int n, int k) {
            // Bit m: who is to take out of m wins; out of none, since the other took the last.
            long wins = 1;
            for (int m = 1; m < n; m++) {
                if (winningTake(wins, m, k) > 0) {
                    wins |= 1L << m;
                }
            }
            return winningTake(wins, n, k);
        }

        private static int winningTake(long wins, int m, int k) {
            for (int take = 1; take <= k && take <= m; take++) {
                if (canBeTaken(take) && (wins >> m - take & 1) == 0) {
                    return take;
                }
            }
            return 0;
        }

        /** 1, or a prime number. */
        private static boolean canBeTaken(int number) {
            for (int divisor = 2; divisor * divisor <= number; divisor++) {
                if (number % divisor == 0) {
                    return false;
                }
            }
            return true;
        }

        static boolean isAtRest(int v, int x, int y) {
            return worth(v, x, y) == bestAgainst(v, y) && worth(v, y, x) == bestAgainst(v, x);
        }

        private static int bestAgainst(int v, int other) {
            int best = worth(v, 0, other);
            for (int own = 1; own < WORDINGS; own++) {
                best = Math.max(best, worth(v, own, other));
            }
            return best;
        }

        private static int worth(int v, int own, int other) {
            if (own > other) {
                return v - (own - other);
            }
            return own < other ? v / 2 - own : v / 3;
        }

        static int stirred(int r) {
            return r * 1103515245 + 12345;
        }

        static int drawn(int r, int n) {
            return n <= 0 ? 0 : (r >>> 16) % n;
        }
    }
}
