/**
 * A book of phrases with the wants that they meet: what is met by which set,
 * which set to learn, and what is known on which day.
 */
public final class TwentyPhrases {
    private static final int BEYOND = -1000000001;
    private static final int FULL = -1000000002;
    private static final int KIND = -1000000003;
    private static final int NONE = -1000000004;
    private static final int STATE = -1000000005;
    private static final int MISSING = -1000000006;
    private static final int SIZE = -1000000007;
    private static final int FINDINGS = 7;

    private static final int LIMIT = 12;
    private static final int LAST_KIND = 5;
    private static final int LAST_TOPIC = 9;
    private static final int MOST_MINUTES = 60;
    private static final int MOST_SOUND = 10;
    private static final int MOST_HELD = 100;
    private static final int MOST_WORTH = 99;
    private static final int MOST_LINE = 100;
    private static final int FIRST_LINE = 60;
    private static final int LAST_DAY = 99;
    private static final int MOST_DAYS_ON = 60;
    private static final int ALL_MINUTES = LIMIT * MOST_MINUTES;
    private static final int MOST_EVENING = 600;
    private static final int MOST_PLANNED = 5;

    private final int[] told = new int[FINDINGS];
    private final Book state = new Book();
    private final Book kept = new Book();
    private boolean isKept = false;
    private final Choice choice = new Choice();
    private final Outlook outlook = new Outlook();
    private final Grammar grammar = new Grammar();
    private final Sheets sheets = new Sheets();

    public TwentyPhrases() {
    }

    // ---- phrases

    public int phrase(int kind, int topic, int minutes, int sound) {
        if (!within(kind, 0, LAST_KIND) || !within(topic, 0, LAST_TOPIC)
                || !within(minutes, 1, MOST_MINUTES) || !within(sound, 0, MOST_SOUND)) {
            return tell(BEYOND);
        }
        if (state.phrases.isFull()) {
            return tell(FULL);
        }
        return state.phrases.add(kind, topic, minutes, sound);
    }

    public int of(int phrase, int what) {
        if (!isPhrase(phrase) || !within(what, 0, 7)) {
            return tell(BEYOND);
        }
        if (what == 6) {
            return state.isKnown(phrase) ? 1 : 0;
        }
        if (what == 7) {
            return state.phrases.forgets(phrase);
        }
        return state.phrases.row(what)[phrase];
    }

    public int set(int phrase, int what, int v) {
        if (!isPhrase(phrase) || !state.phrases.maySet(what, v)) {
            return tell(BEYOND);
        }
        return exchange(state.phrases.row(what), phrase, v);
    }

    public int turn(int phrase, int kind) {
        if (!isPhrase(phrase) || !within(kind, 0, LAST_KIND)) {
            return tell(BEYOND);
        }
        return exchange(state.phrases.kind, phrase, kind);
    }

    public int as(int phrase, int kind) {
        if (!isPhrase(phrase) || !within(kind, 0, LAST_KIND)) {
            return tell(BEYOND);
        }
        if (!state.phrases.isUnder(phrase, kind)) {
            return tell(KIND);
        }
        return state.phrases.held[phrase];
    }

    // ---- wants

    public int want(int topic, int worth, int day) {
        if (!within(topic, 0, LAST_TOPIC) || !within(worth, 0, MOST_WORTH)
                || !within(day, 0, LAST_DAY)) {
            return tell(BEYOND);
        }
        if (state.wants.isFull()) {
            return tell(FULL);
        }
        return state.wants.add(topic, worth, day);
    }

    public int wantOf(int want, int what) {
        if (!isWant(want) || !within(what, 0, 4)) {
            return tell(BEYOND);
        }
        return state.wants.row(what)[want];
    }

    public int change(int want, int what, int v) {
        if (!isWant(want) || !state.wants.mayChange(what, v)) {
            return tell(BEYOND);
        }
        return exchange(state.wants.row(what), want, v);
    }

    public int gain(int phrase, int want, int set) {
        if (!isPhrase(phrase) || !isWant(want) || !isSet(set)) {
            return tell(BEYOND);
        }
        return state.gainOf(phrase, want, state.phrases.hasKind(set, Phrases.ROPE));
    }

    public int met(int want, int set) {
        if (!isWant(want) || !isSet(set)) {
            return tell(BEYOND);
        }
        boolean roped = state.phrases.hasKind(set, Phrases.ROPE);
        boolean mends = state.phrases.hasKind(set, Phrases.MENDING);
        return state.metBy(want, state.gainsMost(want, set, roped), roped, mends);
    }

    public int value(int set) {
        if (!isSet(set)) {
            return tell(BEYOND);
        }
        choice.lookAt(state);
        return choice.valueOf(set);
    }

    public int by(int want, int set) {
        if (!isWant(want) || !isSet(set)) {
            return tell(BEYOND);
        }
        boolean roped = state.phrases.hasKind(set, Phrases.ROPE);
        return orNone(state.gainsMost(want, set, roped));
    }

    // ---- plans

    public int best(int m, int what) {
        if (!within(m, 0, ALL_MINUTES) || !within(what, 0, 2)) {
            return tell(BEYOND);
        }
        choice.lookAt(state);
        int chosen = choice.bestSet(m);
        if (what == 0) {
            return choice.valueOf(chosen);
        }
        return what == 1 ? chosen : choice.minutesOf(chosen);
    }

    public int greedy(int m, int what) {
        if (!within(m, 0, ALL_MINUTES) || !within(what, 0, 1)) {
            return tell(BEYOND);
        }
        choice.lookAt(state);
        int chosen = choice.greedySet(m);
        return what == 0 ? choice.valueOf(chosen) : chosen;
    }

    public int next(int set) {
        if (!isSet(set)) {
            return tell(BEYOND);
        }
        choice.lookAt(state);
        return orNone(choice.bringsMost(set));
    }

    public int spare(int set) {
        if (!isSet(set)) {
            return tell(BEYOND);
        }
        choice.lookAt(state);
        return orNone(choice.leastMissed(set));
    }

    public int minutesFor(int v) {
        if (v < 0) {
            return tell(BEYOND);
        }
        choice.lookAt(state);
        return orNone(choice.fewestMinutes(v));
    }

    // ---- learning

    public int queue(int phrase) {
        if (!isPhrase(phrase)) {
            return tell(BEYOND);
        }
        state.order.drop(phrase);
        state.order.append(phrase);
        return state.order.size;
    }

    public int skip(int phrase) {
        if (!isPhrase(phrase)) {
            return tell(BEYOND);
        }
        return orNone(state.order.drop(phrase));
    }

    public int ith(int i) {
        if (!within(i, 0, state.order.size - 1)) {
            return tell(BEYOND);
        }
        return state.order.row[i];
    }

    public int learn(int phrase, int m) {
        if (!isPhrase(phrase) || !within(m, 1, MOST_EVENING)) {
            return tell(BEYOND);
        }
        state.phrases.learnFor(phrase, m);
        return state.phrases.held[phrase];
    }

    public int evening(int m) {
        if (!within(m, 0, MOST_EVENING)) {
            return tell(BEYOND);
        }
        return state.spendEvening(m);
    }

    public int line(int v) {
        if (!within(v, 1, MOST_LINE)) {
            return tell(BEYOND);
        }
        int was = state.line;
        state.line = v;
        return was;
    }

    public int known() {
        return state.knownSet();
    }

    // ---- days

    public int days(int n) {
        if (!within(n, 1, 30)) {
            return tell(BEYOND);
        }
        if (!mayGo(n)) {
            return tell(STATE);
        }
        int before = state.score;
        state.goDays(n);
        return state.score - before;
    }

    public int now(int what) {
        switch (what) {
            case 0:
                return state.day;
            case 1:
                return state.line;
            case 2:
                return state.score;
            case 3:
                return state.wants.howManyOn(state.day);
            default:
                return tell(BEYOND);
        }
    }

    public int on(int n, int what) {
        if (!within(n, 0, MOST_DAYS_ON) || !within(what, 0, 2)) {
            return tell(BEYOND);
        }
        if (!mayGo(n)) {
            return tell(STATE);
        }
        outlook.lookAhead(state, n);
        Book then = outlook.trial;
        if (what == 0) {
            return then.score;
        }
        return what == 1 ? then.knownSet() : sum(then.phrases.held, then.phrases.size);
    }

    public int forgot(int phrase) {
        if (!isPhrase(phrase)) {
            return tell(BEYOND);
        }
        if (!mayGo(MOST_DAYS_ON)) {
            return tell(STATE);
        }
        return orNone(outlook.daysTillForgotten(state, phrase));
    }

    public int useless(int n) {
        if (!within(n, 1, MOST_DAYS_ON)) {
            return tell(BEYOND);
        }
        if (!mayGo(n)) {
            return tell(STATE);
        }
        return outlook.neverUsed(state, n);
    }

    public int tonight(int n) {
        if (!within(n, 1, MOST_DAYS_ON)) {
            return tell(BEYOND);
        }
        if (!mayGo(n)) {
            return tell(STATE);
        }
        return orNone(outlook.worthLearning(state, n));
    }

    public int plan(int set, int m, int n, int what) {
        if (!isSet(set) || !within(m, 0, MOST_EVENING)
                || !within(n, 1, MOST_DAYS_ON) || !within(what, -1, MOST_PLANNED - 1)) {
            return tell(BEYOND);
        }
        int size = Integer.bitCount(set);
        if (size > MOST_PLANNED) {
            return tell(SIZE);
        }
        if (!mayGo(n)) {
            return tell(STATE);
        }
        if (what >= size) {
            return tell(NONE);
        }
        int place = outlook.placeOfBestOrder(state, set, m, n);
        if (what < 0) {
            return outlook.scoreByOrder(state, set, place, m, n);
        }
        Order order = outlook.trial.order;
        order.arrange(set, place);
        return order.row[what];
    }

    // ---- the text

    public int feed(int bytes, int n) {
        if (!within(n, 1, 4)) {
            return tell(BEYOND);
        }
        Tape tape = grammar.tape;
        if (!tape.hasRoom(n)) {
            return tell(FULL);
        }
        for (int i = n - 1; i >= 0; i--) {
            tape.append(bytes >>> (8 * i) & 255);
        }
        return tape.length;
    }

    public int wipe() {
        return grammar.tape.clear();
    }

    public int book() {
        // A fault may come behind items that were good: those must leave no trace.
        Book tried = outlook.trial;
        tried.takeFrom(state);
        int answer = grammar.readBook(tried);
        if (answer >= 0) {
            state.takeFrom(tried);
        }
        grammar.tape.clear();
        return answer;
    }

    // ---- sheets

    public int sheet(int s, int bits, int n) {
        if (!sheets.isSheet(s) || !(bits == 0 || bits == 8 || bits == 16 || bits == 64)) {
            return tell(BEYOND);
        }
        if (n < 0) {
            return tell(SIZE);
        }
        if (n > Sheets.WIDTH) {
            return tell(BEYOND);
        }
        return sheets.lay(s, bits, n);
    }

    public long write(int s, int i, long v) {
        if (!sheets.isSheet(s)) {
            return tell(BEYOND);
        }
        if (sheets.isMissing(s)) {
            return tell(MISSING);
        }
        if (!sheets.hasNumbers(s, i, 1)) {
            return tell(BEYOND);
        }
        return sheets.replace(s, i, v);
    }

    public int copy(int s, int from, int t, int to, int n) {
        if (!sheets.isSheet(s) || !sheets.isSheet(t)) {
            return tell(BEYOND);
        }
        if (sheets.isMissing(s) || sheets.isMissing(t)) {
            return tell(MISSING);
        }
        if (sheets.bits[s] != sheets.bits[t]) {
            return tell(KIND);
        }
        if (!sheets.hasNumbers(s, from, n) || !sheets.hasNumbers(t, to, n)) {
            return tell(BEYOND);
        }
        sheets.move(s, from, t, to, n);
        return n;
    }

    public int lays(int s) {
        if (!sheets.isSheet(s)) {
            return tell(BEYOND);
        }
        if (sheets.isMissing(s)) {
            return tell(MISSING);
        }
        int came = 0;
        int shared = Math.min(sheets.size[s], state.phrases.size);
        for (int i = 0; i < shared; i++) {
            long v = sheets.at(s, i);
            if (v >= 0 && v <= MOST_HELD) {
                state.phrases.held[i] = (int) v;
                came++;
            }
        }
        return came;
    }

    public int read(int s) {
        if (!sheets.isSheet(s)) {
            return tell(BEYOND);
        }
        if (sheets.isMissing(s)) {
            return tell(MISSING);
        }
        if (!mayGo(Sheets.WIDTH)) {
            return tell(STATE);
        }
        return outlook.firstWrong(state, sheets, s);
    }

    // ---- images

    public int image() {
        kept.takeFrom(state);
        isKept = true;
        return 1;
    }

    public int undo() {
        if (!isKept) {
            return tell(NONE);
        }
        state.takeFrom(kept);
        return state.phrases.size;
    }

    public int tear() {
        int were = isKept ? 1 : 0;
        isKept = false;
        return were;
    }

    public int count(int what) {
        switch (what) {
            case 0:
                return state.phrases.size;
            case 1:
                return state.wants.size;
            case 2:
                return state.order.size;
            case 3:
                return grammar.tape.length;
            case 4:
                return sum(state.phrases.held, state.phrases.size);
            case 5:
                return sum(state.phrases.used, state.phrases.size);
            default:
                return tell(BEYOND);
        }
    }

    public int status(int which) {
        if (which == -1) {
            return sum(told, FINDINGS);
        }
        if (!within(which, 0, FINDINGS - 1)) {
            return tell(BEYOND);
        }
        return told[which];
    }

    // ---- what the calls share

    private int tell(int finding) {
        int which = BEYOND - finding;
        if (which >= 0 && which < FINDINGS) {
            told[which]++;
        }
        return finding;
    }

    private int orNone(int found) {
        return found < 0 ? tell(NONE) : found;
    }

    private boolean isPhrase(int phrase) {
        return phrase >= 0 && phrase < state.phrases.size;
    }

    private boolean isWant(int want) {
        return want >= 0 && want < state.wants.size;
    }

    private boolean isSet(int set) {
        return set >= 0 && set < 1 << state.phrases.size;
    }

    private boolean mayGo(int n) {
        return state.day + n <= LAST_DAY;
    }

    private static boolean within(int v, int least, int most) {
        return v >= least && v <= most;
    }

    private static boolean isIn(int set, int phrase) {
        return (set >> phrase & 1) != 0;
    }

    /** MET of a WANT, most being the greatest of fingers and GAINS. */
    private static int metFrom(int worth, int most, boolean mends) {
        return Math.min(worth, mends ? most + worth / 5 : most);
    }

    private static int exchange(int[] row, int place, int v) {
        int was = row[place];
        row[place] = v;
        return was;
    }

    private static int sum(int[] row, int size) {
        int together = 0;
        for (int i = 0; i < size; i++) {
            together += row[i];
        }
        return together;
    }

    /** PHRASES by number, a row for each thing that is told of them. */
    private static final class Phrases {
        static final int THING = 1;
        static final int ROPE = 2;
        static final int NUMBER = 3;
        static final int MENDING = 4;
        static final int URGENT = 5;

        private static final int[] ABOVE = {-1, 0, 0, 1, 2, 0};
        private static final int[] LEAST = {0, 0, 1, 0, 0};
        private static final int[] MOST = {LAST_KIND, LAST_TOPIC, MOST_MINUTES, MOST_SOUND, MOST_HELD};

        final int[] kind = new int[LIMIT];
        final int[] topic = new int[LIMIT];
        final int[] minutes = new int[LIMIT];
        final int[] sound = new int[LIMIT];
        final int[] held = new int[LIMIT];
        final int[] used = new int[LIMIT];
        int size = 0;

        boolean isFull() {
            return size >= LIMIT;
        }

        /** To be called only if it isn't full. */
        int add(int newKind, int newTopic, int newMinutes, int newSound) {
            kind[size] = newKind;
            topic[size] = newTopic;
            minutes[size] = newMinutes;
            sound[size] = newSound;
            held[size] = 0;
            used[size] = 0;
            size++;
            return size - 1;
        }

        int[] row(int what) {
            switch (what) {
                case 0:
                    return kind;
                case 1:
                    return topic;
                case 2:
                    return minutes;
                case 3:
                    return sound;
                case 4:
                    return held;
                default:
                    return used;
            }
        }

        boolean maySet(int what, int v) {
            return what >= 1 && what < MOST.length && within(v, LEAST[what], MOST[what]);
        }

        boolean isUnder(int phrase, int wanted) {
            int at = kind[phrase];
            for (int step = 0; step < ABOVE.length && at >= 0; step++) {
                if (at == wanted) {
                    return true;
                }
                at = ABOVE[at];
            }
            return false;
        }

        boolean hasKind(int set, int wanted) {
            for (int phrase = 0; phrase < size; phrase++) {
                if (isIn(set, phrase) && isUnder(phrase, wanted)) {
                    return true;
                }
            }
            return false;
        }

        int forgets(int phrase) {
            switch (kind[phrase]) {
                case THING:
                    return 15;
                case ROPE:
                case MENDING:
                    return 5;
                case NUMBER:
                    return 20;
                case URGENT:
                    return 10 + Math.max(0, held[phrase] - 50) / 2;
                default:
                    return 10;
            }
        }

        void learnFor(int phrase, int m) {
            int more = 100 * m / Math.max(1, minutes[phrase]);
            held[phrase] = Math.min(MOST_HELD, held[phrase] + more);
        }

        /** What a night leaves of each, when those of a set were used by day. */
        void passNight(int usedToday) {
            for (int phrase = 0; phrase < size; phrase++) {
                if (isIn(usedToday, phrase)) {
                    held[phrase] = Math.min(MOST_HELD, held[phrase] + 10);
                } else {
                    held[phrase] = Math.max(0, held[phrase] - forgets(phrase));
                }
            }
        }

        void takeFrom(Phrases other) {
            size = other.size;
            System.arraycopy(other.kind, 0, kind, 0, LIMIT);
            System.arraycopy(other.topic, 0, topic, 0, LIMIT);
            System.arraycopy(other.minutes, 0, minutes, 0, LIMIT);
            System.arraycopy(other.sound, 0, sound, 0, LIMIT);
            System.arraycopy(other.held, 0, held, 0, LIMIT);
            System.arraycopy(other.used, 0, used, 0, LIMIT);
        }
    }

    /** WANTS by number, a row for each thing that is told of them. */
    private static final class Wants {
        private static final int[] MOST = {LAST_TOPIC, MOST_WORTH, LAST_DAY, 1, 1};

        final int[] topic = new int[LIMIT];
        final int[] worth = new int[LIMIT];
        final int[] day = new int[LIMIT];
        final int[] hurry = new int[LIMIT];
        final int[] number = new int[LIMIT];
        int size = 0;

        boolean isFull() {
            return size >= LIMIT;
        }

        /** To be called only if it isn't full. */
        int add(int newTopic, int newWorth, int newDay) {
            topic[size] = newTopic;
            worth[size] = newWorth;
            day[size] = newDay;
            hurry[size] = 0;
            number[size] = 0;
            size++;
            return size - 1;
        }

        int[] row(int what) {
            switch (what) {
                case 0:
                    return topic;
                case 1:
                    return worth;
                case 2:
                    return day;
                case 3:
                    return hurry;
                default:
                    return number;
            }
        }

        boolean mayChange(int what, int v) {
            return what >= 1 && what < MOST.length && within(v, 0, MOST[what]);
        }

        int howManyOn(int wanted) {
            int found = 0;
            for (int want = 0; want < size; want++) {
                if (day[want] == wanted) {
                    found++;
                }
            }
            return found;
        }

        void takeFrom(Wants other) {
            size = other.size;
            System.arraycopy(other.topic, 0, topic, 0, LIMIT);
            System.arraycopy(other.worth, 0, worth, 0, LIMIT);
            System.arraycopy(other.day, 0, day, 0, LIMIT);
            System.arraycopy(other.hurry, 0, hurry, 0, LIMIT);
            System.arraycopy(other.number, 0, number, 0, LIMIT);
        }
    }

    /** THE ORDER: a row of PHRASES, none twice. */
    private static final class Order {
        private static final int[] FACTORIAL = {1, 1, 2, 6, 24, 120};

        final int[] row = new int[LIMIT];
        int size = 0;

        int placeOf(int phrase) {
            for (int i = 0; i < size; i++) {
                if (row[i] == phrase) {
                    return i;
                }
            }
            return -1;
        }

        /** One that is in it already stays where it is, so the row can't run over. */
        void append(int phrase) {
            if (size < LIMIT && placeOf(phrase) < 0) {
                row[size] = phrase;
                size++;
            }
        }

        /** Its place, or -1 if it wasn't there. */
        int drop(int phrase) {
            int place = placeOf(phrase);
            if (place >= 0) {
                size--;
                for (int i = place; i < size; i++) {
                    row[i] = row[i + 1];
                }
            }
            return place;
        }

        static int arrangements(int set) {
            return FACTORIAL[Math.min(Integer.bitCount(set), MOST_PLANNED)];
        }

        /** It becomes that one of a set's arrangements, which stand by numbers. */
        void arrange(int set, int place) {
            size = 0;
            int rest = set;
            int left = place;
            for (int after = Math.min(Integer.bitCount(set), MOST_PLANNED) - 1; after >= 0; after--) {
                int each = Math.max(1, FACTORIAL[after]);
                int phrase = memberOf(rest, left / each);
                left = left % each;
                rest = rest & ~(1 << phrase);
                append(phrase);
            }
        }

        private static int memberOf(int set, int i) {
            int rest = set;
            for (int step = 0; step < i && step < LIMIT; step++) {
                rest = rest & (rest - 1);
            }
            return Integer.numberOfTrailingZeros(rest);
        }

        void takeFrom(Order other) {
            size = other.size;
            System.arraycopy(other.row, 0, row, 0, LIMIT);
        }
    }

    /** All that section 1 of the document tells, but THE TAPE. */
    private static final class Book {
        final Phrases phrases = new Phrases();
        final Wants wants = new Wants();
        final Order order = new Order();
        int line = FIRST_LINE;
        int day = 0;
        int score = 0;

        int gainOf(int phrase, int want, boolean roped) {
            int worth = wants.worth[want];
            boolean same = phrases.topic[phrase] == wants.topic[want];
            int asPhrase = same ? worth * phrases.sound[phrase] / 10 : 0;
            int asThing = roped ? asPhrase : asPhrase / 2;
            switch (phrases.kind[phrase]) {
                case Phrases.THING:
                    return asThing;
                case Phrases.ROPE:
                    return worth / 4;
                case Phrases.NUMBER:
                    return wants.number[want] == 1 ? asThing : asThing / 3;
                case Phrases.MENDING:
                    return worth / 4 + 1;
                case Phrases.URGENT:
                    return wants.hurry[want] == 1 ? 3 * asPhrase : asPhrase;
                default:
                    return asPhrase;
            }
        }

        /** Which of a set gains most, or -1 if fingers do as well. */
        int gainsMost(int want, int set, boolean roped) {
            int most = wants.worth[want] / 10;
            int found = -1;
            for (int phrase = 0; phrase < phrases.size; phrase++) {
                if (isIn(set, phrase)) {
                    int gained = gainOf(phrase, want, roped);
                    if (gained > most) {
                        most = gained;
                        found = phrase;
                    }
                }
            }
            return found;
        }

        /** MET of a WANT by a set of which that PHRASE gains most (-1: none). */
        int metBy(int want, int phrase, boolean roped, boolean mends) {
            int worth = wants.worth[want];
            int most = phrase < 0 ? worth / 10 : gainOf(phrase, want, roped);
            return metFrom(worth, most, mends);
        }

        boolean isKnown(int phrase) {
            return phrases.held[phrase] >= line;
        }

        int knownSet() {
            int set = 0;
            for (int phrase = 0; phrase < phrases.size; phrase++) {
                if (isKnown(phrase)) {
                    set |= 1 << phrase;
                }
            }
            return set;
        }

        /** How many minutes are left. */
        int spendEvening(int m) {
            int left = m;
            for (int i = 0; i < order.size && left > 0; i++) {
                int phrase = order.row[i];
                if (!isKnown(phrase)) {
                    int spent = Math.min(left, phrases.minutes[phrase]);
                    phrases.learnFor(phrase, spent);
                    left -= spent;
                }
            }
            return left;
        }

        void goDays(int n) {
            for (int i = 0; i < n; i++) {
                boolean wanted = wants.howManyOn(day) > 0;
                phrases.passNight(wanted ? meetWants(knownSet()) : 0);
                day++;
            }
        }

        /** The wants of this day come; answers which phrases they used. */
        private int meetWants(int set) {
            boolean roped = phrases.hasKind(set, Phrases.ROPE);
            boolean mends = phrases.hasKind(set, Phrases.MENDING);
            int usedToday = 0;
            for (int want = 0; want < wants.size; want++) {
                if (wants.day[want] == day) {
                    int phrase = gainsMost(want, set, roped);
                    score += metBy(want, phrase, roped, mends);
                    if (phrase >= 0) {
                        phrases.used[phrase]++;
                        usedToday |= 1 << phrase;
                    }
                }
            }
            return usedToday;
        }

        void takeFrom(Book other) {
            phrases.takeFrom(other.phrases);
            wants.takeFrom(other.wants);
            order.takeFrom(other.order);
            line = other.line;
            day = other.day;
            score = other.score;
        }
    }

    /**
     * VALUES of sets. BEST asks for those of all sets at once, so each GAIN is
     * reckoned beforehand, with a ROPE in the set and without.
     */
    private static final class Choice {
        private final int[] bare = new int[LIMIT * LIMIT];
        private final int[] roped = new int[LIMIT * LIMIT];
        private final int[] worth = new int[LIMIT];
        private final int[] minutes = new int[LIMIT];
        private final int[] members = new int[LIMIT];
        private int ropes = 0;
        private int mendings = 0;
        private int phrases = 0;
        private int wants = 0;

        /** To be called ahead of the others, whenever the book may be another one. */
        void lookAt(Book book) {
            phrases = book.phrases.size;
            wants = book.wants.size;
            ropes = 0;
            mendings = 0;
            for (int phrase = 0; phrase < phrases; phrase++) {
                minutes[phrase] = book.phrases.minutes[phrase];
                ropes |= book.phrases.isUnder(phrase, Phrases.ROPE) ? 1 << phrase : 0;
                mendings |= book.phrases.isUnder(phrase, Phrases.MENDING) ? 1 << phrase : 0;
            }
            for (int want = 0; want < wants; want++) {
                worth[want] = book.wants.worth[want];
                for (int phrase = 0; phrase < phrases; phrase++) {
                    bare[want * LIMIT + phrase] = book.gainOf(phrase, want, false);
                    roped[want * LIMIT + phrase] = book.gainOf(phrase, want, true);
                }
            }
        }

        int valueOf(int set) {
            int[] gains = (set & ropes) != 0 ? roped : bare;
            boolean mends = (set & mendings) != 0;
            int size = listMembers(set);
            int together = 0;
            for (int want = 0; want < wants; want++) {
                int most = worth[want] / 10;
                for (int i = 0; i < size; i++) {
                    int gained = gains[want * LIMIT + members[i]];
                    if (gained > most) {
                        most = gained;
                    }
                }
                together += metFrom(worth[want], most, mends);
            }
            return together;
        }

        /** How many they are; listed once, they needn't be looked for at each WANT. */
        private int listMembers(int set) {
            int size = 0;
            for (int phrase = 0; phrase < phrases; phrase++) {
                if (isIn(set, phrase)) {
                    members[size] = phrase;
                    size++;
                }
            }
            return size;
        }

        int minutesOf(int set) {
            int together = 0;
            for (int phrase = 0; phrase < phrases; phrase++) {
                if (isIn(set, phrase)) {
                    together += minutes[phrase];
                }
            }
            return together;
        }

        int bestSet(int m) {
            int found = 0;
            int foundValue = valueOf(0);
            int foundMinutes = 0;
            for (int set = 1; set < 1 << phrases; set++) {
                int needed = minutesOf(set);
                if (needed <= m) {
                    int worthIt = valueOf(set);
                    if (worthIt > foundValue || worthIt == foundValue && needed < foundMinutes) {
                        found = set;
                        foundValue = worthIt;
                        foundMinutes = needed;
                    }
                }
            }
            return found;
        }

        /** -1 if no set has such a VALUE. */
        int fewestMinutes(int v) {
            int fewest = -1;
            for (int set = 0; set < 1 << phrases; set++) {
                int needed = minutesOf(set);
                if ((fewest < 0 || needed < fewest) && valueOf(set) >= v) {
                    fewest = needed;
                }
            }
            return fewest;
        }

        int greedySet(int m) {
            int chosen = 0;
            int left = m;
            for (int step = 0; step < phrases; step++) {
                int phrase = greedyStep(chosen, left);
                if (phrase < 0) {
                    break;
                }
                chosen |= 1 << phrase;
                left -= minutes[phrase];
            }
            return chosen;
        }

        private int greedyStep(int chosen, int left) {
            int most = valueOf(chosen);
            int found = -1;
            for (int phrase = 0; phrase < phrases; phrase++) {
                if (!isIn(chosen, phrase) && minutes[phrase] <= left) {
                    int then = valueOf(chosen | 1 << phrase);
                    boolean sooner = found >= 0 && then == most && minutes[phrase] < minutes[found];
                    if (then > most || sooner) {
                        most = then;
                        found = phrase;
                    }
                }
            }
            return found;
        }

        /** -1 if none brings any. */
        int bringsMost(int set) {
            int most = valueOf(set);
            int found = -1;
            for (int phrase = 0; phrase < phrases; phrase++) {
                if (!isIn(set, phrase)) {
                    int then = valueOf(set | 1 << phrase);
                    if (then > most) {
                        most = then;
                        found = phrase;
                    }
                }
            }
            return found;
        }

        /** -1 if the set is empty. */
        int leastMissed(int set) {
            int most = -1;
            int found = -1;
            for (int phrase = 0; phrase < phrases; phrase++) {
                if (isIn(set, phrase)) {
                    int then = valueOf(set & ~(1 << phrase));
                    if (then > most) {
                        most = then;
                        found = phrase;
                    }
                }
            }
            return found;
        }
    }

    /** What days to come would bring, tried on a book that is there for trials. */
    private static final class Outlook {
        final Book trial = new Book();

        void lookAhead(Book book, int n) {
            trial.takeFrom(book);
            trial.goDays(n);
        }

        /** -1 if it is known all the while. */
        int daysTillForgotten(Book book, int phrase) {
            trial.takeFrom(book);
            for (int n = 0; n <= MOST_DAYS_ON; n++) {
                if (!trial.isKnown(phrase)) {
                    return n;
                }
                trial.goDays(1);
            }
            return -1;
        }

        int neverUsed(Book book, int n) {
            lookAhead(book, n);
            int set = 0;
            for (int phrase = 0; phrase < book.phrases.size; phrase++) {
                if (trial.phrases.used[phrase] == book.phrases.used[phrase]) {
                    set |= 1 << phrase;
                }
            }
            return set;
        }

        /** -1 if none is worth more than to learn nothing. */
        int worthLearning(Book book, int n) {
            lookAhead(book, n);
            int most = trial.score;
            int found = -1;
            for (int phrase = 0; phrase < book.phrases.size; phrase++) {
                trial.takeFrom(book);
                trial.phrases.learnFor(phrase, trial.phrases.minutes[phrase]);
                trial.goDays(n);
                if (trial.score > most) {
                    most = trial.score;
                    found = phrase;
                }
            }
            return found;
        }

        int placeOfBestOrder(Book book, int set, int m, int n) {
            int most = -1;
            int found = 0;
            for (int place = 0; place < Order.arrangements(set); place++) {
                int score = scoreByOrder(book, set, place, m, n);
                if (score > most) {
                    most = score;
                    found = place;
                }
            }
            return found;
        }

        int scoreByOrder(Book book, int set, int place, int m, int n) {
            trial.takeFrom(book);
            trial.order.arrange(set, place);
            trial.spendEvening(m);
            trial.goDays(n);
            return trial.score;
        }

        /** 0 if a sheet tells every SCORE rightly, else 1 and the first wrong place. */
        int firstWrong(Book book, Sheets sheets, int s) {
            trial.takeFrom(book);
            for (int i = 0; i < sheets.size[s]; i++) {
                if (sheets.at(s, i) != trial.score) {
                    return 1 + i;
                }
                trial.goDays(1);
            }
            return 0;
        }
    }

    /** THE TAPE, and the TOKEN at which its reader stands. */
    private static final class Tape {
        private static final int ROOM = 120;
        private static final int TOO_MUCH = 1000;

        static final int END = 0;
        static final int WORD = 1;
        static final int NUMBER = 2;
        static final int SIGN = 3;
        static final int OTHER = 4;

        private final int[] bytes = new int[ROOM];
        int length = 0;

        int token = END;
        int place = 0;
        int number = 0;
        private int behind = 0;

        boolean hasRoom(int n) {
            return length + n <= ROOM;
        }

        void append(int b) {
            if (length < ROOM) {
                bytes[length] = b;
                length++;
            }
        }

        /** How many bytes it had. */
        int clear() {
            int had = length;
            length = 0;
            return had;
        }

        void begin() {
            behind = 0;
            advance();
        }

        void advance() {
            place = behind;
            while (place < length && bytes[place] == ' ') {
                place++;
            }
            behind = place;
            if (place >= length) {
                token = END;
            } else if (isLetter(place)) {
                token = WORD;
                while (behind < length && isLetter(behind)) {
                    behind++;
                }
            } else if (isDigit(place)) {
                token = NUMBER;
                number = 0;
                while (behind < length && isDigit(behind)) {
                    number = Math.min(TOO_MUCH, number * 10 + bytes[behind] - '0');
                    behind++;
                }
            } else {
                token = bytes[place] == ';' ? SIGN : OTHER;
                behind = place + 1;
            }
        }

        private boolean isLetter(int i) {
            return bytes[i] >= 'a' && bytes[i] <= 'z';
        }

        private boolean isDigit(int i) {
            return bytes[i] >= '0' && bytes[i] <= '9';
        }

        boolean isWord(String word) {
            if (token != WORD || behind - place != word.length()) {
                return false;
            }
            for (int i = 0; i < word.length(); i++) {
                if (bytes[place + i] != word.charAt(i)) {
                    return false;
                }
            }
            return true;
        }
    }

    /**
     * THE TEXT of a BOOK. Each part answers whether it stood there; if it didn't,
     * the tape's reader stands at the FAULT.
     */
    private static final class Grammar {
        final Tape tape = new Tape();

        /** How many ITEMS came to a book; with a FAULT, -1 less its place. */
        int readBook(Book book) {
            tape.begin();
            for (int items = 1; items <= Tape.ROOM; items++) {
                if (!readItem(book)) {
                    break;
                }
                if (tape.token == Tape.END) {
                    return items;
                }
                if (tape.token != Tape.SIGN) {
                    break;
                }
                tape.advance();
            }
            return -1 - tape.place;
        }

        private boolean readItem(Book book) {
            int kind = kindNamed();
            if (kind >= 0) {
                return readPhrase(book.phrases, kind);
            }
            if (tape.isWord("want")) {
                return readWant(book.wants);
            }
            if (tape.isWord("line")) {
                return readLine(book);
            }
            return tape.isWord("order") && readOrder(book);
        }

        private int kindNamed() {
            if (tape.isWord("phrase")) {
                return 0;
            }
            if (tape.isWord("thing")) {
                return Phrases.THING;
            }
            if (tape.isWord("rope")) {
                return Phrases.ROPE;
            }
            if (tape.isWord("number")) {
                return Phrases.NUMBER;
            }
            if (tape.isWord("mending")) {
                return Phrases.MENDING;
            }
            return tape.isWord("urgent") ? Phrases.URGENT : -1;
        }

        private boolean readPhrase(Phrases phrases, int kind) {
            if (phrases.isFull()) {
                return false;
            }
            tape.advance();
            int topic = takeNumber(0, LAST_TOPIC);
            if (topic < 0) {
                return false;
            }
            int minutes = takeWord("minutes") ? takeNumber(1, MOST_MINUTES) : 5;
            if (minutes < 0) {
                return false;
            }
            int sound = takeWord("sound") ? takeNumber(0, MOST_SOUND) : 7;
            if (sound < 0) {
                return false;
            }
            phrases.add(kind, topic, minutes, sound);
            return true;
        }

        private boolean readWant(Wants wants) {
            if (wants.isFull()) {
                return false;
            }
            tape.advance();
            int topic = takeNumber(0, LAST_TOPIC);
            if (topic < 0 || !takeWord("worth")) {
                return false;
            }
            int worth = takeNumber(0, MOST_WORTH);
            if (worth < 0 || !takeWord("day")) {
                return false;
            }
            int day = takeNumber(0, LAST_DAY);
            if (day < 0) {
                return false;
            }
            int want = wants.add(topic, worth, day);
            wants.hurry[want] = takeWord("hurry") ? 1 : 0;
            wants.number[want] = takeWord("count") ? 1 : 0;
            return true;
        }

        private boolean readLine(Book book) {
            tape.advance();
            int v = takeNumber(1, MOST_LINE);
            if (v < 0) {
                return false;
            }
            book.line = v;
            return true;
        }

        private boolean readOrder(Book book) {
            tape.advance();
            book.order.size = 0;
            // None may come twice, so a row longer than LIMIT ends at a fault.
            for (int i = 0; i <= LIMIT; i++) {
                if (i > 0 && tape.token != Tape.NUMBER) {
                    return true;
                }
                if (tape.token == Tape.NUMBER && book.order.placeOf(tape.number) >= 0) {
                    return false;
                }
                int phrase = takeNumber(0, book.phrases.size - 1);
                if (phrase < 0) {
                    return false;
                }
                book.order.append(phrase);
            }
            return false;
        }

        private boolean takeWord(String word) {
            if (!tape.isWord(word)) {
                return false;
            }
            tape.advance();
            return true;
        }

        /** -1, and no step on, if no such NUMBER stands there. */
        private int takeNumber(int least, int most) {
            if (tape.token != Tape.NUMBER || !within(tape.number, least, most)) {
                return -1;
            }
            int v = tape.number;
            tape.advance();
            return v;
        }
    }

    /** SHEETS; a sheet of 0 bits is MISSING. */
    private static final class Sheets {
        static final int WIDTH = 40;
        private static final int HOW_MANY = 4;

        final int[] bits = new int[HOW_MANY];
        final int[] size = new int[HOW_MANY];
        private final long[] numbers = new long[HOW_MANY * WIDTH];

        boolean isSheet(int s) {
            return s >= 0 && s < HOW_MANY;
        }

        boolean isMissing(int s) {
            return bits[s] == 0;
        }

        /** Whether a sheet has n numbers from one on. */
        boolean hasNumbers(int s, int from, int n) {
            return from >= 0 && n >= 0 && from <= size[s] && n <= size[s] - from;
        }

        int lay(int s, int newBits, int n) {
            bits[s] = newBits;
            size[s] = newBits == 0 ? 0 : n;
            for (int i = 0; i < WIDTH; i++) {
                numbers[s * WIDTH + i] = 0;
            }
            return size[s];
        }

        long at(int s, int i) {
            return numbers[s * WIDTH + i];
        }

        long replace(int s, int i, long v) {
            long was = at(s, i);
            numbers[s * WIDTH + i] = cut(v, bits[s]);
            return was;
        }

        /** Numbers of few bits have signs, as those of 64 do. */
        private static long cut(long v, int toBits) {
            if (toBits == 8) {
                return (byte) v;
            }
            return toBits == 16 ? (short) v : v;
        }

        void move(int s, int from, int t, int to, int n) {
            System.arraycopy(numbers, s * WIDTH + from, numbers, t * WIDTH + to, n);
        }
    }
}
