/** One method a promise: ordinary inputs, the edges that the document names, and wrong inputs. */
public final class PromisesTest {
    private static final int BEYOND = -1000000001, FULL = -1000000002, KIND = -1000000003, NONE = -1000000004,
            STATE = -1000000005, MISSING = -1000000006, SIZE = -1000000007;
    private static final int MIN = Integer.MIN_VALUE, MAX = Integer.MAX_VALUE;
    private static final int PHRASE = 0, THING = 1, ROPE = 2, NUMBER = 3, MENDING = 4, URGENT = 5;

    private static int wrong = 0;
    private static int promise = 0;
    private static int asked = 0;

    private static void due(long got, long want) {
        asked++;
        if (got != want) {
            wrong++;
            System.out.println("promise " + promise + ", answer " + asked + " was " + got + ", due is " + want);
        }
    }

    private static void begin(int number) {
        promise = number;
        asked = 0;
    }

    /** The whole tape is fed byte by byte. */
    private static int book(TwentyPhrases x, String text) {
        x.wipe();
        for (int i = 0; i < text.length(); i++) {
            x.feed(text.charAt(i), 1);
        }
        return x.book();
    }

    private static TwentyPhrases told(String text) {
        TwentyPhrases x = new TwentyPhrases();
        if (book(x, text) < 0) {
            throw new IllegalStateException(text);
        }
        return x;
    }

    /** One of each kind, numbered as the kinds, all of topic 1, 10 minutes and sound 9. */
    private static TwentyPhrases oneOfEach() {
        TwentyPhrases x = new TwentyPhrases();
        for (int kind = PHRASE; kind <= URGENT; kind++) {
            x.phrase(kind, 1, 10, 9);
        }
        return x;
    }

    /** Twelve phrases and twelve wants. */
    private static TwentyPhrases full() {
        TwentyPhrases x = new TwentyPhrases();
        for (int i = 0; i < 12; i++) {
            x.phrase(PHRASE, 0, 1, 10);
            x.want(0, 10, 0);
        }
        return x;
    }

    private static TwentyPhrases onDay(int day) {
        TwentyPhrases x = oneOfEach();
        for (int left = day; left > 0; left -= 30) {
            x.days(Math.min(30, left));
        }
        return x;
    }

    public static void main(String[] args) {
        newObject();
        phrase();
        ofCall();
        set();
        turn();
        as();
        want();
        wantOf();
        change();
        gain();
        met();
        value();
        by();
        best();
        greedy();
        next();
        spare();
        minutesFor();
        queue();
        skip();
        ith();
        learn();
        evening();
        line();
        known();
        days();
        now();
        on();
        forgot();
        useless();
        tonight();
        plan();
        feed();
        wipe();
        book();
        bookFaults();
        sheet();
        write();
        copy();
        lays();
        read();
        image();
        undo();
        tear();
        count();
        status();
        System.out.println(wrong == 0 ? "all promises hold" : wrong + " answers are not as due");
        if (wrong != 0) {
            System.exit(1);
        }
    }

    private static void newObject() {
        begin(1);
        TwentyPhrases x = new TwentyPhrases();
        for (int what = 0; what <= 5; what++) {
            due(x.count(what), 0);
        }
        due(x.now(0), 0);
        due(x.now(1), 60);
        due(x.now(2), 0);
        due(x.now(3), 0);
        due(x.undo(), NONE);
        due(x.tear(), 0);
        for (int s = 0; s <= 3; s++) {
            due(x.lays(s), MISSING);
        }
        due(x.status(-1), 5);
        due(new TwentyPhrases().status(-1), 0);
    }

    private static void phrase() {
        begin(2);
        TwentyPhrases x = new TwentyPhrases();
        due(x.phrase(0, 0, 1, 0), 0);
        due(x.phrase(5, 9, 60, 10), 1);
        int[][] bad = {{-1, 0, 1, 0}, {6, 0, 1, 0}, {0, -1, 1, 0}, {0, 10, 1, 0}, {0, 0, 0, 0}, {0, 0, 61, 0},
            {0, 0, 1, -1}, {0, 0, 1, 11}, {MIN, 0, 1, 0}, {0, MAX, 1, 0}, {0, 0, MIN, 0}, {0, 0, 1, MAX}};
        for (int[] b : bad) {
            due(x.phrase(b[0], b[1], b[2], b[3]), BEYOND);
        }
        due(x.count(0), 2);
        for (int i = 2; i < 12; i++) {
            due(x.phrase(1, 1, 1, 1), i);
        }
        due(x.phrase(1, 1, 1, 1), FULL);
        due(x.phrase(6, 1, 1, 1), BEYOND);
        due(x.count(0), 12);
    }

    private static void ofCall() {
        begin(3);
        TwentyPhrases x = new TwentyPhrases();
        due(x.of(0, 0), BEYOND);
        x.phrase(URGENT, 4, 25, 8);
        int[] first = {5, 4, 25, 8, 0, 0, 0, 10};
        for (int what = 0; what <= 7; what++) {
            due(x.of(0, what), first[what]);
        }
        x.set(0, 4, 60);
        due(x.of(0, 6), 1);
        due(x.of(0, 7), 15);
        x.set(0, 4, 59);
        due(x.of(0, 6), 0);
        due(x.of(0, 7), 14);
        x.set(0, 4, 51);
        due(x.of(0, 7), 10);
        x.set(0, 4, 52);
        due(x.of(0, 7), 11);
        x.set(0, 4, 49);
        due(x.of(0, 7), 10);
        due(x.of(0, -1), BEYOND);
        due(x.of(0, 8), BEYOND);
        due(x.of(1, 0), BEYOND);
        due(x.of(-1, 0), BEYOND);
        due(x.of(MIN, MAX), BEYOND);
        TwentyPhrases y = oneOfEach();
        int[] forgets = {10, 15, 5, 20, 5, 10};
        for (int kind = PHRASE; kind <= URGENT; kind++) {
            due(y.of(kind, 7), forgets[kind]);
        }
    }

    private static void set() {
        begin(4);
        TwentyPhrases x = new TwentyPhrases();
        x.phrase(NUMBER, 4, 25, 8);
        due(x.set(0, 1, 9), 4);
        due(x.set(0, 1, 0), 9);
        due(x.set(0, 2, 60), 25);
        due(x.set(0, 2, 1), 60);
        due(x.set(0, 3, 10), 8);
        due(x.set(0, 3, 0), 10);
        due(x.set(0, 4, 100), 0);
        due(x.set(0, 4, 7), 100);
        int[][] bad = {{0, 1, -1}, {0, 1, 10}, {0, 2, 0}, {0, 2, 61}, {0, 3, -1}, {0, 3, 11}, {0, 4, -1}, {0, 4, 101},
            {0, 0, 1}, {0, 5, 1}, {0, 6, 1}, {0, -1, 1}, {1, 1, 1}, {-1, 1, 1}, {MAX, MAX, MAX}, {MIN, MIN, MIN}};
        for (int[] b : bad) {
            due(x.set(b[0], b[1], b[2]), BEYOND);
        }
        int[] then = {3, 0, 1, 0, 7, 0};
        for (int what = 0; what <= 5; what++) {
            due(x.of(0, what), then[what]);
        }
    }

    private static void turn() {
        begin(5);
        TwentyPhrases x = told("rope 3 minutes 4 sound 5");
        x.set(0, 4, 66);
        due(x.turn(0, URGENT), ROPE);
        due(x.turn(0, URGENT), URGENT);
        due(x.turn(0, PHRASE), URGENT);
        due(x.turn(0, 6), BEYOND);
        due(x.turn(0, -1), BEYOND);
        due(x.turn(1, 0), BEYOND);
        due(x.turn(-1, 0), BEYOND);
        int[] then = {0, 3, 4, 5, 66, 0, 1, 10};
        for (int what = 0; what <= 7; what++) {
            due(x.of(0, what), then[what]);
        }
    }

    private static void as() {
        begin(6);
        TwentyPhrases x = oneOfEach();
        // For each kind, those kinds as which it may be taken.
        String[] fits = {"0", "01", "02", "013", "024", "05"};
        for (int phrase = 0; phrase < 6; phrase++) {
            x.set(phrase, 4, 10 + phrase);
            for (int kind = 0; kind < 6; kind++) {
                due(x.as(phrase, kind), fits[phrase].indexOf('0' + kind) >= 0 ? 10 + phrase : KIND);
            }
        }
        due(x.as(0, 6), BEYOND);
        due(x.as(0, -1), BEYOND);
        due(x.as(6, 0), BEYOND);
        due(x.as(-1, 0), BEYOND);
        x.turn(0, MENDING);
        due(x.as(0, ROPE), 10);
    }

    private static void want() {
        begin(7);
        TwentyPhrases x = new TwentyPhrases();
        due(x.want(0, 0, 0), 0);
        due(x.want(9, 99, 99), 1);
        int[][] bad = {{-1, 0, 0}, {10, 0, 0}, {0, -1, 0}, {0, 100, 0}, {0, 0, -1}, {0, 0, 100}, {MIN, 0, 0}, {0, MAX, 0}};
        for (int[] b : bad) {
            due(x.want(b[0], b[1], b[2]), BEYOND);
        }
        for (int i = 2; i < 12; i++) {
            due(x.want(1, 1, 1), i);
        }
        due(x.want(1, 1, 1), FULL);
        due(x.want(1, 1, 100), BEYOND);
        due(x.count(1), 12);
        due(x.wantOf(11, 3), 0);
        due(x.wantOf(11, 4), 0);
    }

    private static void wantOf() {
        begin(8);
        TwentyPhrases x = told("want 4 worth 77 day 31 hurry; want 5 worth 6 day 7 count");
        int[][] due = {{4, 77, 31, 1, 0}, {5, 6, 7, 0, 1}};
        for (int want = 0; want < 2; want++) {
            for (int what = 0; what <= 4; what++) {
                due(x.wantOf(want, what), due[want][what]);
            }
        }
        due(x.wantOf(0, 5), BEYOND);
        due(x.wantOf(0, -1), BEYOND);
        due(x.wantOf(2, 0), BEYOND);
        due(x.wantOf(-1, 0), BEYOND);
    }

    private static void change() {
        begin(9);
        TwentyPhrases x = told("want 4 worth 77 day 31");
        due(x.change(0, 1, 99), 77);
        due(x.change(0, 1, 0), 99);
        due(x.change(0, 2, 99), 31);
        due(x.change(0, 2, 0), 99);
        due(x.change(0, 3, 1), 0);
        due(x.change(0, 3, 1), 1);
        due(x.change(0, 4, 1), 0);
        due(x.change(0, 4, 0), 1);
        int[][] bad = {{0, 1, -1}, {0, 1, 100}, {0, 2, -1}, {0, 2, 100}, {0, 3, -1}, {0, 3, 2}, {0, 4, -1}, {0, 4, 2},
            {0, 0, 1}, {0, 5, 1}, {0, -1, 1}, {1, 1, 1}, {-1, 1, 1}, {MAX, MIN, MAX}};
        for (int[] b : bad) {
            due(x.change(b[0], b[1], b[2]), BEYOND);
        }
        int[] then = {4, 0, 0, 1, 0};
        for (int what = 0; what <= 4; what++) {
            due(x.wantOf(0, what), then[what]);
        }
    }

    private static void gain() {
        begin(10);
        TwentyPhrases x = oneOfEach();
        x.want(1, 79, 0);
        x.want(2, 79, 0);
        // 79 times 9 by 10 is 71; half of it 35, a third of these 23 and 11; a quarter of 79 is 19.
        int[] bare = {71, 35, 19, 11, 20, 71};
        int[] roped = {71, 71, 19, 23, 20, 71};
        int[] elsewhere = {0, 0, 19, 0, 20, 0};
        for (int phrase = 0; phrase < 6; phrase++) {
            due(x.gain(phrase, 0, 0), bare[phrase]);
            due(x.gain(phrase, 0, 1 + 2 + 8 + 32), bare[phrase]);
            due(x.gain(phrase, 0, 4), roped[phrase]);
            due(x.gain(phrase, 0, 16), roped[phrase]);
            due(x.gain(phrase, 1, 63), elsewhere[phrase]);
        }
        TwentyPhrases y = told("rope 0; thing 1 sound 10; want 1 worth 80 day 0");
        due(y.gain(1, 0, 3), 80);
        due(y.gain(1, 0, 2), 40);
        x.change(0, 3, 1);
        x.change(0, 4, 1);
        due(x.gain(URGENT, 0, 0), 213);
        due(x.gain(PHRASE, 0, 0), 71);
        due(x.gain(NUMBER, 0, 0), 35);
        due(x.gain(NUMBER, 0, 20), 71);
        due(x.gain(6, 0, 0), BEYOND);
        due(x.gain(-1, 0, 0), BEYOND);
        due(x.gain(0, 2, 0), BEYOND);
        due(x.gain(0, -1, 0), BEYOND);
        due(x.gain(0, 0, 64), BEYOND);
        due(x.gain(0, 0, -1), BEYOND);
        due(x.gain(0, 0, MIN), BEYOND);
    }

    private static void met() {
        begin(11);
        TwentyPhrases x = oneOfEach();
        x.want(1, 79, 0);
        x.want(2, 99, 0);
        x.want(2, 0, 0);
        due(x.met(0, 0), 7);
        due(x.met(0, 1), 71);
        due(x.met(0, 2), 35);
        due(x.met(0, 2 + 8), 35);
        due(x.met(0, 2 + 4), 71);
        due(x.met(0, 4), 19);
        due(x.met(0, 16), 35);
        due(x.met(0, 1 + 16), 79);
        due(x.met(1, 0), 9);
        due(x.met(1, 43), 9);
        due(x.met(1, 4), 24);
        due(x.met(1, 16), 44);
        due(x.met(2, 63), 0);
        x.change(0, 3, 1);
        due(x.met(0, 32), 79);
        due(x.met(3, 0), BEYOND);
        due(x.met(-1, 0), BEYOND);
        due(x.met(0, 64), BEYOND);
        due(x.met(0, -1), BEYOND);
    }

    private static void value() {
        begin(12);
        TwentyPhrases x = oneOfEach();
        due(x.value(63), 0);
        x.want(1, 79, 0);
        x.want(2, 99, 50);
        due(x.value(0), 7 + 9);
        due(x.value(1), 71 + 9);
        due(x.value(2), 35 + 9);
        due(x.value(2 + 4), 71 + 24);
        due(x.value(2 + 16), 79 + 44);
        due(x.value(64), BEYOND);
        due(x.value(-1), BEYOND);
        // A rope that is none any more doesn't count, whatever was asked before.
        x.turn(ROPE, PHRASE);
        due(x.value(2 + 4), 71 + 9);
        x.turn(MENDING, PHRASE);
        due(x.value(2 + 16), 71 + 9);
        due(x.value(2), 35 + 9);
        due(full().value(4095), 120);
        due(full().value(4096), BEYOND);
    }

    private static void by() {
        begin(13);
        TwentyPhrases x = oneOfEach();
        x.want(1, 79, 0);
        x.want(2, 99, 0);
        x.want(2, 0, 0);
        due(x.by(0, 0), NONE);
        due(x.by(0, 63), PHRASE);
        due(x.by(0, 62), THING);
        due(x.by(0, 42), URGENT);
        due(x.by(0, 10), THING);
        due(x.by(1, 43), NONE);
        due(x.by(1, 63), MENDING);
        due(x.by(2, 15), NONE);
        due(x.by(2, 63), MENDING);
        x.set(0, 3, 1);
        due(x.by(0, 1), NONE);
        x.set(0, 3, 2);
        due(x.by(0, 1), 0);
        due(x.by(3, 0), BEYOND);
        due(x.by(-1, 0), BEYOND);
        due(x.by(0, 64), BEYOND);
        due(x.by(0, -1), BEYOND);
    }

    private static void best() {
        begin(14);
        // Two of 5 minutes each for their own topics beat the one of 9 minutes that is best alone.
        TwentyPhrases x = told("phrase 1 minutes 9 sound 10; phrase 2 minutes 5 sound 10; phrase 3 minutes 5 sound 10;"
            + "want 1 worth 60 day 0");
        x.want(2, 50, 0);
        x.want(3, 50, 0);
        due(x.best(4, 0), 16);
        due(x.best(4, 1), 0);
        due(x.best(4, 2), 0);
        due(x.best(9, 0), 70);
        due(x.best(9, 1), 1);
        due(x.best(10, 0), 106);
        due(x.best(10, 1), 6);
        due(x.best(10, 2), 10);
        due(x.best(5, 1), 2);
        due(x.best(720, 1), 7);
        due(x.best(720, 2), 19);
        // As much with fewer minutes; then the least.
        TwentyPhrases y = told("phrase 1 minutes 9 sound 10; phrase 1 minutes 5 sound 10; phrase 1 minutes 5 sound 10;"
            + "want 1 worth 60 day 0");
        due(y.best(9, 1), 2);
        due(y.best(720, 1), 2);
        due(y.best(0, 1), 0);
        due(y.best(-1, 0), BEYOND);
        due(y.best(721, 0), BEYOND);
        due(y.best(0, -1), BEYOND);
        due(y.best(0, 3), BEYOND);
        due(full().best(720, 1), 1);
    }

    private static void greedy() {
        begin(15);
        TwentyPhrases x = told("phrase 1 minutes 9 sound 10; phrase 2 minutes 5 sound 10; phrase 3 minutes 5 sound 10;"
            + "want 1 worth 60 day 0");
        x.want(2, 50, 0);
        x.want(3, 50, 0);
        due(x.greedy(10, 0), 70);
        due(x.greedy(10, 1), 1);
        due(x.greedy(8, 1), 2);
        due(x.greedy(14, 1), 3);
        due(x.greedy(19, 1), 7);
        due(x.greedy(4, 0), 16);
        due(x.greedy(4, 1), 0);
        // Of as much, the one with fewest minutes, then the least; none that brings nothing.
        TwentyPhrases y = told("phrase 1 minutes 9 sound 10; phrase 1 minutes 5 sound 10; phrase 1 minutes 5 sound 10;"
            + "want 1 worth 60 day 0");
        due(y.greedy(720, 1), 2);
        due(y.greedy(0, 0), 6);
        due(y.greedy(-1, 0), BEYOND);
        due(y.greedy(721, 0), BEYOND);
        due(y.greedy(0, -1), BEYOND);
        due(y.greedy(0, 2), BEYOND);
    }

    private static void next() {
        begin(16);
        TwentyPhrases x = told("phrase 1 sound 9; phrase 2 sound 9; thing 1 sound 10; rope 0; phrase 4;"
            + "want 1 worth 50 day 0; want 2 worth 50 day 0");
        due(x.next(0), 0);
        due(x.next(1), 1);
        due(x.next(3), NONE);
        due(x.next(3 + 4), 3);
        due(x.next(31), NONE);
        due(x.next(32), BEYOND);
        due(x.next(-1), BEYOND);
        due(new TwentyPhrases().next(0), NONE);
        due(new TwentyPhrases().next(1), BEYOND);
    }

    private static void spare() {
        begin(17);
        TwentyPhrases x = told("phrase 1 sound 9; phrase 2 sound 9; phrase 1 sound 8;"
            + "want 1 worth 50 day 0; want 2 worth 60 day 0");
        due(x.spare(7), 2);
        due(x.spare(3), 0);
        due(x.spare(2), 1);
        due(x.spare(5), 2);
        due(x.spare(0), NONE);
        due(x.spare(8), BEYOND);
        due(x.spare(-1), BEYOND);
        x.change(1, 1, 50);
        due(x.spare(3), 0);
        due(full().spare(4095), 0);
    }

    private static void minutesFor() {
        begin(18);
        TwentyPhrases x = told("phrase 1 minutes 9 sound 10; phrase 2 minutes 5 sound 10; phrase 3 minutes 5 sound 10;"
            + "want 1 worth 60 day 0");
        x.want(2, 50, 0);
        x.want(3, 50, 0);
        due(x.minutesFor(0), 0);
        due(x.minutesFor(16), 0);
        due(x.minutesFor(17), 5);
        due(x.minutesFor(61), 5);
        due(x.minutesFor(62), 9);
        due(x.minutesFor(71), 10);
        due(x.minutesFor(106), 10);
        due(x.minutesFor(107), 14);
        due(x.minutesFor(160), 19);
        due(x.minutesFor(161), NONE);
        due(x.minutesFor(MAX), NONE);
        due(x.minutesFor(-1), BEYOND);
        due(x.minutesFor(MIN), BEYOND);
    }

    private static void queue() {
        begin(19);
        TwentyPhrases x = oneOfEach();
        due(x.queue(3), 1);
        due(x.queue(3), 1);
        due(x.queue(0), 2);
        due(x.queue(5), 3);
        due(x.queue(3), 3);
        due(x.ith(0), 0);
        due(x.ith(1), 5);
        due(x.ith(2), 3);
        due(x.queue(6), BEYOND);
        due(x.queue(-1), BEYOND);
        TwentyPhrases y = full();
        for (int i = 0; i < 12; i++) {
            due(y.queue(i), i + 1);
        }
        due(y.queue(0), 12);
        due(y.ith(11), 0);
        due(y.ith(0), 1);
    }

    private static void skip() {
        begin(20);
        TwentyPhrases x = told("phrase 0; phrase 0; phrase 0; order 2 0 1");
        due(x.skip(0), 1);
        due(x.skip(0), NONE);
        due(x.count(2), 2);
        due(x.ith(0), 2);
        due(x.ith(1), 1);
        due(x.skip(1), 1);
        due(x.skip(2), 0);
        due(x.count(2), 0);
        due(x.skip(3), BEYOND);
        due(x.skip(-1), BEYOND);
    }

    private static void ith() {
        begin(21);
        TwentyPhrases x = told("phrase 0; phrase 0; phrase 0; order 2 0");
        due(x.ith(0), 2);
        due(x.ith(1), 0);
        due(x.ith(2), BEYOND);
        due(x.ith(-1), BEYOND);
        due(x.ith(MAX), BEYOND);
        due(new TwentyPhrases().ith(0), BEYOND);
    }

    private static void learn() {
        begin(22);
        TwentyPhrases x = told("phrase 0 minutes 7");
        due(x.learn(0, 1), 14);
        due(x.learn(0, 2), 42);
        due(x.learn(0, 4), 99);
        due(x.learn(0, 1), 100);
        due(x.learn(0, 600), 100);
        x.phrase(PHRASE, 0, 1, 0);
        due(x.learn(1, 1), 100);
        x.set(1, 2, 60);
        x.set(1, 4, 0);
        due(x.learn(1, 1), 1);
        due(x.of(0, 4), 100);
        due(x.learn(0, 0), BEYOND);
        due(x.learn(0, 601), BEYOND);
        due(x.learn(0, MIN), BEYOND);
        due(x.learn(2, 1), BEYOND);
        due(x.learn(-1, 1), BEYOND);
    }

    private static void evening() {
        begin(23);
        TwentyPhrases x = told("phrase 0 minutes 10; phrase 0 minutes 6; phrase 0 minutes 9; phrase 0 minutes 3;"
            + "order 2 0 3");
        x.set(0, 4, 60);
        x.set(2, 4, 59);
        due(x.evening(0), 0);
        due(x.of(2, 4), 59);
        due(x.evening(11), 0);
        due(x.of(2, 4), 100);
        due(x.of(0, 4), 60);
        due(x.of(3, 4), 66);
        due(x.of(1, 4), 0);
        due(x.evening(600), 600);
        x.set(3, 4, 0);
        x.set(0, 4, 0);
        due(x.evening(600), 587);
        due(x.evening(601), BEYOND);
        due(x.evening(-1), BEYOND);
        TwentyPhrases y = told("phrase 0 minutes 10; phrase 0 minutes 6; order 0 1");
        due(y.evening(4), 0);
        due(y.of(0, 4), 40);
        due(y.of(1, 4), 0);
        due(y.count(2), 2);
    }

    private static void line() {
        begin(24);
        TwentyPhrases x = new TwentyPhrases();
        due(x.line(1), 60);
        due(x.line(100), 1);
        due(x.line(0), BEYOND);
        due(x.line(101), BEYOND);
        due(x.line(MIN), BEYOND);
        due(x.now(1), 100);
    }

    private static void known() {
        begin(25);
        TwentyPhrases x = oneOfEach();
        due(x.known(), 0);
        x.set(0, 4, 59);
        x.set(1, 4, 60);
        x.set(5, 4, 100);
        due(x.known(), 34);
        x.line(59);
        due(x.known(), 35);
        x.line(1);
        due(x.known(), 35);
        x.set(4, 4, 1);
        due(x.known(), 51);
    }

    private static void days() {
        begin(26);
        TwentyPhrases x = told("phrase 1 sound 10; thing 1 sound 10; rope 0; number 1; mending 0; urgent 1;"
            + "want 1 worth 50 day 0");
        x.want(1, 50, 0);
        x.want(3, 50, 2);
        for (int phrase = 0; phrase < 4; phrase++) {
            x.set(phrase, 4, 95);
        }
        x.set(5, 4, 54);
        due(x.days(1), 100);
        int[] held = {100, 80, 90, 75, 0, 42};
        for (int phrase = 0; phrase < 6; phrase++) {
            due(x.of(phrase, 4), held[phrase]);
        }
        due(x.of(0, 5), 2);
        due(x.count(5), 2);
        due(x.now(0), 1);
        // By the third day the rope alone is used; fingers would do 5.
        due(x.days(2), 12);
        due(x.of(2, 4), 95);
        due(x.of(2, 5), 1);
        due(x.of(0, 4), 80);
        due(x.of(3, 4), 35);
        due(x.now(2), 112);
        due(x.days(0), BEYOND);
        due(x.days(31), BEYOND);
        due(x.days(-1), BEYOND);
        due(x.now(0), 3);
        due(onDay(69).days(30), 0);
        due(onDay(70).days(30), STATE);
        due(onDay(99).days(1), STATE);
        due(onDay(99).days(31), BEYOND);
        // Fingers use no phrase; a want's day that is gone doesn't come again.
        TwentyPhrases y = told("phrase 1 sound 1; want 1 worth 50 day 0; want 1 worth 40 day 1");
        y.set(0, 4, 100);
        due(y.days(1), 5);
        due(y.of(0, 5), 0);
        due(y.of(0, 4), 90);
        due(y.days(5), 4);
        due(y.days(1), 0);
    }

    private static void now() {
        begin(27);
        TwentyPhrases x = told("want 1 worth 50 day 0; want 1 worth 51 day 3; want 2 worth 30 day 3; want 2 worth 30 day 3");
        due(x.now(0), 0);
        due(x.now(1), 60);
        due(x.now(2), 0);
        due(x.now(3), 1);
        x.days(3);
        x.line(44);
        due(x.now(0), 3);
        due(x.now(1), 44);
        due(x.now(2), 5);
        due(x.now(3), 3);
        due(x.now(4), BEYOND);
        due(x.now(-1), BEYOND);
    }

    private static void on() {
        begin(28);
        TwentyPhrases x = told("phrase 1 sound 10; rope 0; want 1 worth 50 day 0; want 2 worth 60 day 1");
        x.set(0, 4, 65);
        x.set(1, 4, 64);
        due(x.on(0, 0), 0);
        due(x.on(0, 1), 3);
        due(x.on(0, 2), 129);
        due(x.on(1, 0), 50);
        due(x.on(1, 1), 1);
        due(x.on(1, 2), 75 + 59);
        due(x.on(2, 0), 56);
        due(x.on(60, 0), 56);
        due(x.on(60, 2), 0);
        due(x.now(0), 0);
        due(x.now(2), 0);
        due(x.count(4), 129);
        due(x.count(5), 0);
        due(x.on(61, 0), BEYOND);
        due(x.on(-1, 0), BEYOND);
        due(x.on(0, 3), BEYOND);
        due(x.on(0, -1), BEYOND);
        due(onDay(39).on(60, 0), 0);
        due(onDay(40).on(60, 0), STATE);
        due(onDay(40).on(60, 3), BEYOND);
        due(onDay(99).on(0, 1), 0);
    }

    private static void forgot() {
        begin(29);
        TwentyPhrases x = oneOfEach();
        due(x.forgot(0), 0);
        x.set(0, 4, 100);
        due(x.forgot(0), 5);
        x.set(2, 4, 100);
        due(x.forgot(2), 9);
        x.set(5, 4, 100);
        due(x.forgot(5), 2);
        x.line(1);
        due(x.forgot(2), 20);
        due(x.forgot(6), BEYOND);
        due(x.forgot(-1), BEYOND);
        due(onDay(39).forgot(0), 0);
        due(onDay(40).forgot(0), STATE);
        due(onDay(40).forgot(6), BEYOND);
        // Twelve wants can't keep any phrase for 60 days: this one lasts as long as can be.
        TwentyPhrases z = told("mending 0; line 1");
        for (int i = 0; i < 12; i++) {
            z.want(0, 50, 4 + 4 * i);
        }
        z.set(0, 4, 100);
        due(z.on(55, 2), 5);
        due(z.on(56, 2), 0);
        due(z.forgot(0), 56);
        z.set(0, 4, 95);
        due(z.forgot(0), 55);
        due(z.now(0), 0);
    }

    private static void useless() {
        begin(30);
        TwentyPhrases x = told("phrase 1 sound 10; phrase 2; phrase 2; phrase 3; want 1 worth 50 day 0;"
            + "want 2 worth 50 day 1");
        for (int phrase = 0; phrase < 3; phrase++) {
            x.set(phrase, 4, 100);
        }
        due(x.useless(1), 14);
        due(x.useless(2), 12);
        due(x.useless(60), 12);
        x.days(1);
        // Only what those days need counts.
        due(x.useless(1), 13);
        due(x.count(5), 1);
        due(x.useless(0), BEYOND);
        due(x.useless(61), BEYOND);
        due(onDay(39).useless(60), 63);
        due(onDay(40).useless(60), STATE);
        due(onDay(40).useless(61), BEYOND);
        due(onDay(99).useless(1), STATE);
    }

    private static void tonight() {
        begin(31);
        TwentyPhrases x = told("phrase 1 sound 8; phrase 2 minutes 50 sound 10; phrase 2 sound 10;"
            + "want 1 worth 50 day 0; want 2 worth 60 day 3");
        due(x.tonight(1), 0);
        due(x.tonight(3), 0);
        due(x.tonight(4), 1);
        x.set(1, 4, 100);
        due(x.tonight(4), 0);
        x.set(0, 4, 60);
        due(x.tonight(4), NONE);
        due(x.count(4), 160);
        x.set(1, 4, 89);
        due(x.tonight(4), 1);
        due(x.tonight(0), BEYOND);
        due(x.tonight(61), BEYOND);
        due(onDay(39).tonight(60), NONE);
        due(onDay(40).tonight(60), STATE);
        due(onDay(40).tonight(0), BEYOND);
    }

    private static void plan() {
        begin(32);
        TwentyPhrases x = told("phrase 1 minutes 9 sound 10; phrase 2 minutes 5 sound 10; phrase 3 minutes 5 sound 10;"
            + "order 2 0");
        x.want(1, 60, 0);
        x.want(2, 50, 0);
        x.want(3, 50, 0);
        // 2 and 1 take 10 minutes and meet 106; 0 and what is left for another meet 70.
        due(x.plan(7, 10, 1, -1), 106);
        due(x.plan(7, 10, 1, 0), 1);
        due(x.plan(7, 10, 1, 1), 2);
        due(x.plan(7, 10, 1, 2), 0);
        due(x.plan(7, 10, 1, 3), NONE);
        due(x.plan(7, 9, 1, -1), 106);
        due(x.plan(7, 0, 1, -1), 16);
        due(x.plan(7, 0, 1, 0), 0);
        due(x.plan(7, 0, 1, 2), 2);
        due(x.plan(7, 600, 60, -1), 160);
        due(x.plan(6, 3, 1, 0), 1);
        due(x.plan(5, 6, 1, 0), 0);
        due(x.plan(5, 5, 1, 0), 2);
        due(x.plan(0, 600, 1, -1), 16);
        due(x.plan(0, 600, 1, 0), NONE);
        due(x.ith(0), 2);
        due(x.count(2), 2);
        due(x.count(4), 0);
        int[][] bad = {{8, 0, 1, 0}, {-1, 0, 1, 0}, {7, -1, 1, 0}, {7, 601, 1, 0}, {7, 0, 0, 0}, {7, 0, 61, 0},
            {7, 0, 1, -2}, {7, 0, 1, 5}};
        for (int[] b : bad) {
            due(x.plan(b[0], b[1], b[2], b[3]), BEYOND);
        }
        due(onDay(40).plan(63, 0, 60, 0), SIZE);
        due(onDay(40).plan(63, 601, 60, 0), BEYOND);
        due(onDay(40).plan(31, 0, 60, 0), STATE);
        due(onDay(40).plan(1, 0, 60, 4), STATE);
        due(onDay(39).plan(31, 0, 60, 4), 4);
        due(onDay(39).plan(31, 0, 60, -1), 0);
        fiveInOrder();
    }

    /** Five of which only those that come first are known by morning. */
    private static void fiveInOrder() {
        TwentyPhrases x = told("phrase 0 minutes 10 sound 10; phrase 1 minutes 10 sound 10; phrase 2 minutes 10 sound 10;"
            + "want 1 worth 90 day 0");
        x.phrase(PHRASE, 3, 10, 10);
        x.phrase(PHRASE, 4, 10, 10);
        x.phrase(PHRASE, 5, 10, 10);
        x.want(4, 90, 0);
        x.line(100);
        // Two are learnt in full; the third has 9 of its 10 minutes.
        due(x.plan(62, 29, 1, -1), 180);
        int[] order = {1, 4, 2, 3, 5};
        for (int i = 0; i < 5; i++) {
            due(x.plan(62, 29, 1, i), order[i]);
        }
        x.change(0, 1, 1);
        due(x.plan(62, 19, 1, -1), 90);
        int[] then = {4, 1, 2, 3, 5};
        for (int i = 0; i < 5; i++) {
            due(x.plan(62, 19, 1, i), then[i]);
        }
    }

    private static void feed() {
        begin(33);
        TwentyPhrases x = new TwentyPhrases();
        due(x.feed(0, 0), BEYOND);
        due(x.feed(0, 5), BEYOND);
        due(x.feed(0, -1), BEYOND);
        due(x.feed(0, MAX), BEYOND);
        // The higher bytes of a number aren't fed.
        due(x.feed(0x7f7f6c69, 2), 2);
        due(x.feed(0x7f6e6520, 3), 5);
        due(x.feed(0x7f7f7f37, 1), 6);
        due(x.count(3), 6);
        due(x.book(), 1);
        due(x.now(1), 7);
        for (int i = 1; i <= 29; i++) {
            due(x.feed(0x6c696e65, 4), 4 * i);
        }
        due(x.feed(0x6c, 1), 117);
        due(x.feed(0x6c696e65, 4), FULL);
        due(x.feed(0x6c696e, 3), 120);
        due(x.feed(0x6c, 1), FULL);
        due(x.feed(0x6c, 0), BEYOND);
        due(x.count(3), 120);
        due(x.feed(MIN, MIN), BEYOND);
    }

    private static void wipe() {
        begin(34);
        TwentyPhrases x = new TwentyPhrases();
        due(x.wipe(), 0);
        x.feed(0x6c696e65, 4);
        x.feed(0x23, 1);
        due(x.wipe(), 5);
        due(x.count(3), 0);
        due(x.wipe(), 0);
        due(book(x, "line 9"), 1);
    }

    private static void book() {
        begin(35);
        TwentyPhrases x = new TwentyPhrases();
        due(book(x, "phrase 3; thing 4 minutes 60; rope 5 sound 10; number 6 minutes 1 sound 0"), 4);
        due(book(x, "mending7;urgent8minutes2sound3;line100;order5 0 3"), 4);
        int[][] rows = {{0, 3, 5, 7}, {1, 4, 60, 7}, {2, 5, 5, 10}, {3, 6, 1, 0}, {4, 7, 5, 7}, {5, 8, 2, 3}};
        for (int phrase = 0; phrase < 6; phrase++) {
            for (int what = 0; what <= 3; what++) {
                due(x.of(phrase, what), rows[phrase][what]);
            }
            due(x.of(phrase, 4), 0);
        }
        due(x.now(1), 100);
        due(x.count(2), 3);
        due(x.ith(0), 5);
        due(x.ith(1), 0);
        due(x.ith(2), 3);
        due(x.count(3), 0);
        due(book(x, "  want 1 worth 99 day 0  ;want 2worth 0 day 99 hurry;want 0 worth 5 day 6 count "), 3);
        due(book(x, "want 9 worth 8 day 7 hurry count;order 1;order 2 1"), 3);
        int[][] wants = {{1, 99, 0, 0, 0}, {2, 0, 99, 1, 0}, {0, 5, 6, 0, 1}, {9, 8, 7, 1, 1}};
        for (int want = 0; want < 4; want++) {
            for (int what = 0; what <= 4; what++) {
                due(x.wantOf(want, what), wants[want][what]);
            }
        }
        due(x.count(2), 2);
        due(x.ith(0), 2);
        // Those that were there stay as they are, and zeros ahead of a number don't count.
        x.set(0, 4, 55);
        due(book(x, "line 00001; phrase 00; order 006"), 3);
        due(x.of(0, 4), 55);
        due(x.ith(0), 6);
        due(x.now(1), 1);
        due(x.status(-1), 0);
        due(book(x, "order 0 1 2 3 4 5 6"), 1);
        due(x.count(2), 7);
    }

    /** Each text with the place of its fault, on a book of two phrases. */
    private static void bookFaults() {
        begin(35);
        Object[][] faults = {
            {"", 0}, {"   ", 3}, {";", 0}, {"line", 4}, {"line ", 5}, {"line 5;", 7}, {"line 5; ", 8}, {"line 5;;", 7},
            {"line 0", 5}, {"line 101", 5}, {"line 1000", 5}, {"line 99999999999999999999", 5}, {"line five", 5},
            {"line 5 5", 7}, {"line 5 line 6", 7}, {"lines 5", 0}, {"linez 5", 0}, {"xine 5", 0}, {"lina 5", 0}, {"line`5", 4}, {"line{5", 4},
            {"line/5", 4}, {"line:5", 4}, {"Line 5", 0}, {"line-5", 4}, {"line 5\t", 6},
            {"line 5\n;", 6}, {"line 5#", 6}, {"\u00e9", 0}, {"5", 0}, {"lineorder 1", 0}, {"line 5, line 6", 6},
            {"phrase", 6}, {"phrase 10", 7}, {"phrase minutes 5", 7}, {"phrase 1 minutes", 16},
            {"phrase 1 minutes 0", 17}, {"phrase 1 minutes 61", 17}, {"phrase 1 minutes sound 5", 17},
            {"phrase 1 sound 11", 15}, {"phrase 1 sound", 14}, {"phrase 1 sound 5 minutes 5", 17},
            {"phrase 1 minutes 5 minutes 5", 19}, {"phrase 1 hurry", 9}, {"phrase 1 2", 9}, {"phrases 1", 0},
            {"want", 4}, {"want 10", 5}, {"want 1", 6}, {"want 1 day 5", 7}, {"want 1 worth 100 day 5", 13},
            {"want 1 worth 5", 14}, {"want 1 worth 5 day", 18}, {"want 1 worth 5 day 100", 19},
            {"want 1 worth 5 day 5 count hurry", 27}, {"want 1 worth 5 day 5 hurry hurry", 27},
            {"want 1 worth 5 hurry", 15}, {"order", 5}, {"order;line 5", 5}, {"order 2", 6}, {"order 0 0", 8},
            {"order 0 1 0", 10}, {"order 0 1 2", 10}, {"order 0 x", 8}, {"order 0 line 5", 8}, {"order 2;phrase 1", 6},
            {"phrase 1;order 3", 15}, {"order 0;", 8}, {"order 0 1000", 8}, {"minutes 5", 0}, {"line 5;x", 7}};
        for (Object[] fault : faults) {
            TwentyPhrases each = told("phrase 1; rope 2; line 44; order 1; want 1 worth 2 day 3");
            due(book(each, (String) fault[0]), -1 - (Integer) fault[1]);
            due(each.count(3), 0);
        }
        TwentyPhrases x = told("phrase 1; rope 2; line 44; order 1; want 1 worth 2 day 3");
        due(book(x, "line 50; phrase 1; want 1 worth 2 day 3; order 2 0; line 0"), -1 - 57);
        due(x.count(0), 2);
        due(x.count(1), 1);
        due(x.count(2), 1);
        due(x.ith(0), 1);
        due(x.now(1), 44);
        due(x.status(-1), 0);
        TwentyPhrases y = full();
        due(book(y, "line 5; phrase 1"), -1 - 8);
        due(book(y, "line 5; want"), -1 - 8);
        due(book(y, "  rope x"), -1 - 2);
        due(y.now(1), 60);
        due(book(y, "order 11 10 9 8 7 6 5 4 3 2 1 0"), 1);
        due(y.count(2), 12);
        due(book(y, "order 11 10 9 8 7 6 5 4 3 2 1 0 0"), -1 - 32);
        TwentyPhrases z = new TwentyPhrases();
        StringBuilder twelve = new StringBuilder("rope 1");
        for (int i = 1; i < 12; i++) {
            twelve.append(";rope 1");
        }
        due(book(z, twelve + ";rope 1"), -1 - 84);
        due(z.count(0), 0);
        due(book(z, twelve.toString()), 12);
        due(z.count(0), 12);
    }

    private static void sheet() {
        begin(36);
        TwentyPhrases x = new TwentyPhrases();
        due(x.sheet(0, 8, 40), 40);
        due(x.sheet(3, 16, 0), 0);
        due(x.sheet(1, 64, 2), 2);
        x.write(1, 0, 9);
        x.write(1, 1, 9);
        due(x.sheet(1, 64, 2), 2);
        due(x.write(1, 0, 9), 0);
        due(x.write(1, 1, 9), 0);
        due(x.sheet(1, 64, 1), 1);
        due(x.write(1, 1, 9), BEYOND);
        due(x.sheet(1, 0, 7), 0);
        due(x.write(1, 0, 9), MISSING);
        due(x.sheet(0, 0, 40), 0);
        due(x.sheet(-1, 8, 1), BEYOND);
        due(x.sheet(4, 8, 1), BEYOND);
        due(x.sheet(0, 32, 1), BEYOND);
        due(x.sheet(0, -8, 1), BEYOND);
        due(x.sheet(0, 32, -1), BEYOND);
        due(x.sheet(4, 8, -1), BEYOND);
        due(x.sheet(0, 8, -1), SIZE);
        due(x.sheet(0, 0, -1), SIZE);
        due(x.sheet(0, 8, MIN), SIZE);
        due(x.sheet(0, 8, 41), BEYOND);
        due(x.sheet(0, 0, 41), BEYOND);
        due(x.sheet(0, 64, MAX), BEYOND);
        due(x.lays(0), MISSING);
    }

    private static void write() {
        begin(37);
        TwentyPhrases x = new TwentyPhrases();
        due(x.write(0, 0, 1), MISSING);
        due(x.write(0, -1, 1), MISSING);
        due(x.write(4, 0, 1), BEYOND);
        due(x.write(-1, 0, 1), BEYOND);
        x.sheet(0, 8, 2);
        x.sheet(1, 16, 40);
        x.sheet(2, 64, 1);
        due(x.write(0, 0, 100), 0);
        due(x.write(0, 0, 0x7fffff00L + 5), 100);
        due(x.write(0, 0, 256 + 127), 5);
        due(x.write(0, 1, 128), 0);
        due(x.write(0, 1, 0), -128);
        due(x.write(0, 0, 0), 127);
        due(x.write(1, 39, 32767), 0);
        due(x.write(1, 39, 32768), 32767);
        due(x.write(1, 39, 65536 + 300), -32768);
        due(x.write(1, 39, 0), 300);
        due(x.write(2, 0, Long.MIN_VALUE), 0);
        due(x.write(2, 0, Long.MAX_VALUE), Long.MIN_VALUE);
        due(x.write(2, 0, BEYOND), Long.MAX_VALUE);
        int before = x.status(-1);
        due(x.write(2, 0, 1L << 40), BEYOND);
        due(x.status(-1), before);
        due(x.write(2, 0, 0), 1L << 40);
        due(x.write(0, 2, 1), BEYOND);
        due(x.write(0, -1, 1), BEYOND);
        due(x.write(1, 40, 1), BEYOND);
        due(x.write(2, MAX, 1), BEYOND);
        due(x.status(-1), before + 4);
    }

    private static void copy() {
        begin(38);
        TwentyPhrases x = new TwentyPhrases();
        x.sheet(0, 8, 5);
        x.sheet(1, 8, 3);
        x.sheet(2, 16, 5);
        for (int i = 0; i < 5; i++) {
            x.write(0, i, i + 1);
        }
        due(x.copy(0, 0, 0, 1, 4), 4);
        dueNumbers(x, 0, 1, 1, 2, 3, 4);
        due(x.copy(0, 1, 0, 0, 4), 4);
        dueNumbers(x, 0, 1, 2, 3, 4, 4);
        due(x.copy(0, 2, 1, 1, 2), 2);
        dueNumbers(x, 1, 0, 3, 4);
        due(x.copy(0, 5, 1, 3, 0), 0);
        due(x.copy(0, 0, 1, 0, 4), BEYOND);
        due(x.copy(1, 0, 0, 0, 4), BEYOND);
        due(x.copy(0, 6, 1, 0, 0), BEYOND);
        due(x.copy(0, -1, 1, 0, 1), BEYOND);
        due(x.copy(0, 0, 1, -1, 1), BEYOND);
        due(x.copy(0, 0, 1, 0, -1), BEYOND);
        due(x.copy(0, 1, 1, 1, MAX), BEYOND);
        due(x.copy(0, MAX, 1, MAX, MAX), BEYOND);
        due(x.copy(0, 0, 2, 0, 1), KIND);
        due(x.copy(0, -1, 2, 0, 99), KIND);
        due(x.copy(0, 0, 3, 0, -1), MISSING);
        due(x.copy(3, 0, 2, 0, 1), MISSING);
        due(x.copy(3, 0, 4, 0, 1), BEYOND);
        due(x.copy(-1, 0, 3, 0, 1), BEYOND);
        dueNumbers(x, 0, 1, 2, 3, 4, 4);
        dueNumbers(x, 1, 0, 3, 4);
    }

    private static void dueNumbers(TwentyPhrases x, int s, int... numbers) {
        for (int i = 0; i < numbers.length; i++) {
            due(x.write(s, i, numbers[i]), numbers[i]);
        }
    }

    private static void lays() {
        begin(39);
        TwentyPhrases x = told("phrase 0; phrase 0; phrase 0; phrase 0");
        x.set(1, 4, 33);
        x.set(2, 4, 44);
        x.sheet(0, 64, 6);
        long[] numbers = {100, 101, -1, 1, 5, 5};
        for (int i = 0; i < numbers.length; i++) {
            x.write(0, i, numbers[i]);
        }
        due(x.lays(0), 2);
        int[] held = {100, 33, 44, 1};
        for (int i = 0; i < 4; i++) {
            due(x.of(i, 4), held[i]);
        }
        x.write(0, 0, 1L << 32);
        due(x.lays(0), 1);
        due(x.of(0, 4), 100);
        x.sheet(1, 8, 2);
        due(x.lays(1), 2);
        due(x.count(4), 45);
        due(x.lays(2), MISSING);
        due(x.lays(4), BEYOND);
        due(x.lays(-1), BEYOND);
        x.sheet(2, 8, 0);
        due(x.lays(2), 0);
    }

    private static void read() {
        begin(40);
        TwentyPhrases x = told("phrase 1 sound 10; want 1 worth 50 day 0; want 1 worth 60 day 1");
        x.set(0, 4, 60);
        x.sheet(0, 8, 4);
        due(x.read(0), 2);
        x.write(0, 1, 50);
        due(x.read(0), 3);
        x.write(0, 2, 110);
        x.write(0, 3, 110);
        due(x.read(0), 0);
        x.write(0, 0, 1);
        due(x.read(0), 1);
        due(x.now(0), 0);
        due(x.now(2), 0);
        x.sheet(1, 16, 0);
        due(x.read(1), 0);
        x.sheet(1, 64, 40);
        x.days(1);
        due(x.read(1), 1);
        x.write(1, 0, 50);
        due(x.read(1), 2);
        due(x.read(2), MISSING);
        due(x.read(4), BEYOND);
        due(x.read(-1), BEYOND);
        TwentyPhrases y = onDay(59);
        y.sheet(0, 8, 40);
        due(y.read(0), 0);
        y.days(1);
        due(y.read(0), STATE);
        due(y.read(1), MISSING);
        due(y.read(4), BEYOND);
    }

    private static void image() {
        begin(41);
        TwentyPhrases x = told("phrase 1; want 1 worth 50 day 0");
        due(x.image(), 1);
        x.phrase(ROPE, 1, 1, 1);
        due(x.image(), 1);
        x.phrase(ROPE, 1, 1, 1);
        due(x.undo(), 2);
        due(x.undo(), 2);
        due(x.count(0), 2);
    }

    private static void undo() {
        begin(42);
        TwentyPhrases x = told("phrase 1 minutes 4 sound 10; rope 2; want 1 worth 50 day 0; line 50; order 1 0");
        x.set(0, 4, 70);
        x.days(1);
        x.sheet(0, 8, 2);
        x.image();
        x.days(9);
        x.phrase(1, 1, 1, 1);
        x.want(1, 1, 1);
        x.set(0, 1, 5);
        x.set(0, 2, 5);
        x.set(0, 3, 5);
        x.turn(0, 3);
        x.change(0, 1, 1);
        x.change(0, 2, 1);
        x.change(0, 3, 1);
        x.change(0, 4, 1);
        x.line(99);
        x.queue(1);
        x.feed(0x6c696e65, 4);
        x.write(0, 1, 7);
        x.sheet(1, 8, 1);
        x.ith(99);
        due(x.undo(), 2);
        int[] first = {0, 1, 4, 10, 80, 1, 1, 10};
        for (int what = 0; what <= 7; what++) {
            due(x.of(0, what), first[what]);
        }
        int[] want = {1, 50, 0, 0, 0};
        for (int what = 0; what <= 4; what++) {
            due(x.wantOf(0, what), want[what]);
        }
        due(x.now(0), 1);
        due(x.now(1), 50);
        due(x.now(2), 50);
        due(x.count(1), 1);
        due(x.ith(0), 1);
        due(x.ith(1), 0);
        // The tape, sheets and status are what they were.
        due(x.count(3), 4);
        due(x.write(0, 1, 7), 7);
        due(x.lays(1), 1);
        due(x.status(-1), 1);
        x.set(0, 4, 5);
        due(x.undo(), 2);
        due(x.of(0, 4), 80);
        due(new TwentyPhrases().undo(), NONE);
        TwentyPhrases y = new TwentyPhrases();
        y.image();
        due(y.undo(), 0);
    }

    private static void tear() {
        begin(43);
        TwentyPhrases x = oneOfEach();
        due(x.tear(), 0);
        x.image();
        x.image();
        due(x.tear(), 1);
        due(x.tear(), 0);
        due(x.undo(), NONE);
        due(x.count(0), 6);
        x.image();
        due(x.undo(), 6);
    }

    private static void count() {
        begin(44);
        TwentyPhrases x = told("phrase 1 sound 10; rope 2; thing 1; want 1 worth 50 day 0; want 1 worth 50 day 0; order 1");
        x.set(0, 4, 70);
        x.set(2, 4, 15);
        x.feed(0, 3);
        int[] due = {3, 2, 1, 3, 85, 0};
        for (int what = 0; what <= 5; what++) {
            due(x.count(what), due[what]);
        }
        x.days(1);
        due(x.count(4), 80);
        due(x.count(5), 2);
        due(x.count(6), BEYOND);
        due(x.count(-1), BEYOND);
    }

    private static void status() {
        begin(45);
        TwentyPhrases x = full();
        due(x.status(-1), 0);
        due(x.status(7), BEYOND);
        due(x.status(0), 1);
        due(x.status(-2), BEYOND);
        due(x.status(0), 2);
        x.phrase(0, 0, 1, 0);
        x.want(0, 0, 0);
        x.as(0, 1);
        x.as(0, 2);
        x.as(0, 3);
        x.skip(0);
        x.undo();
        x.next(4095);
        x.days(30);
        x.days(30);
        x.days(30);
        x.days(30);
        x.forgot(0);
        x.on(60, 0);
        x.useless(60);
        x.plan(1, 0, 60, 0);
        x.write(0, 0, 0);
        x.copy(0, 0, 0, 0, 0);
        x.lays(0);
        x.read(0);
        x.read(3);
        x.write(3, 0, 0);
        x.sheet(0, 8, -1);
        x.plan(4095, 0, 60, 0);
        x.sheet(0, 0, -1);
        x.feed(0, 1);
        x.book();
        int[] due = {2, 2, 3, 3, 5, 6, 3};
        int together = 0;
        for (int which = 0; which <= 6; which++) {
            due(x.status(which), due[which]);
            together += due[which];
        }
        due(x.status(-1), together);
        x.image();
        x.ith(12);
        x.undo();
        due(x.status(0), 3);
        due(x.status(-1), together + 1);
    }
}
