import java.lang.reflect.InvocationTargetException;
import java.lang.reflect.Method;
import java.util.ArrayList;
import java.util.List;

/** What the boundary cases share: how they are run, books to begin with, and what is due. */
final class Edges {
    static final int BEYOND = -1000000001, FULL = -1000000002, KIND = -1000000003, NONE = -1000000004,
            STATE = -1000000005, MISSING = -1000000006, SIZE = -1000000007;
    static final int MIN = Integer.MIN_VALUE, MAX = Integer.MAX_VALUE;
    static final int PHRASE = 0, THING = 1, ROPE = 2, NUMBER = 3, MENDING = 4, URGENT = 5;
    static final int TOPIC = 1, MINUTES = 2, SOUND = 3, HELD = 4, USED = 5;
    static final int WORTH = 1, DAY = 2, HURRY = 3, COUNT = 4;

    /** A call whose answer is looked at. */
    interface Call {
        long on(TwentyPhrases x);
    }

    /** How an object comes to be; two that are made so are alike. */
    interface Made {
        TwentyPhrases make();
    }

    private static String running = "";
    private static int asked = 0;
    private static int wrong = 0;

    private Edges() {
    }

    static int wrongAnswers() {
        return wrong;
    }

    /** Runs the methods of a class that are named after a promise; answers their names. */
    static List<String> run(Class<?> cases) throws IllegalAccessException {
        List<String> names = new ArrayList<>();
        for (Method each : cases.getDeclaredMethods()) {
            if (each.getName().matches("(promise\\d\\d|terms)[A-Z]\\w*")) {
                names.add(each.getName());
                running = each.getName();
                asked = 0;
                try {
                    each.invoke(null);
                } catch (InvocationTargetException e) {
                    fails("threw " + e.getCause());
                }
                if (asked == 0) {
                    fails("asks for nothing");
                }
            }
        }
        return names;
    }

    private static void fails(String how) {
        wrong++;
        System.out.println(running + ", answer " + asked + ": " + how);
    }

    static void due(long got, long want) {
        asked++;
        if (got != want) {
            fails("was " + got + ", due is " + want);
        }
    }

    /** What 0, 1, .. of a PHRASE. */
    static void duePhrase(TwentyPhrases x, int phrase, int... told) {
        for (int what = 0; what < told.length; what++) {
            due(x.of(phrase, what), told[what]);
        }
    }

    /** What 0, 1, .. of a WANT. */
    static void dueWant(TwentyPhrases x, int want, int... told) {
        for (int what = 0; what < told.length; what++) {
            due(x.wantOf(want, what), told[what]);
        }
    }

    static void dueOrder(TwentyPhrases x, int... row) {
        due(x.count(2), row.length);
        for (int i = 0; i < row.length; i++) {
            due(x.ith(i), row[i]);
        }
        due(x.ith(row.length), BEYOND);
    }

    static void dueNumbers(TwentyPhrases x, int s, long... numbers) {
        for (int i = 0; i < numbers.length; i++) {
            due(x.write(s, i, numbers[i]), numbers[i]);
        }
        due(x.write(s, numbers.length, 0), BEYOND);
    }

    /** On a book in midst of use a call answers a finding and changes nothing but status(). */
    static void refused(int finding, Call call) {
        refused(finding, Edges::usual, call);
    }

    static void refused(int finding, Made made, Call call) {
        TwentyPhrases x = made.make();
        int[] before = statusOf(x);
        due(call.on(x), finding);
        before[0]++;
        before[BEYOND - finding + 1]++;
        dueStatus(x, before);
        dueAlike(x, made.make());
    }

    /** A call that answers no finding changes nothing at all. */
    static void unchanging(Made made, Call call, long answer) {
        TwentyPhrases x = made.make();
        int[] before = statusOf(x);
        due(call.on(x), answer);
        dueStatus(x, before);
        dueAlike(x, made.make());
    }

    /** Status of -1, 0, .. 6. */
    static int[] statusOf(TwentyPhrases x) {
        int[] told = new int[8];
        for (int which = -1; which <= 6; which++) {
            told[which + 1] = x.status(which);
        }
        return told;
    }

    static void dueStatus(TwentyPhrases x, int... told) {
        for (int which = -1; which <= 6; which++) {
            due(x.status(which), told[which + 1]);
        }
    }

    /** All that two objects answer from now on is the same; they can't be used behind it. */
    static void dueAlike(TwentyPhrases x, TwentyPhrases y) {
        List<Long> one = everything(x);
        List<Long> other = everything(y);
        due(one.size(), other.size());
        for (int i = 0; i < Math.min(one.size(), other.size()); i++) {
            if (!one.get(i).equals(other.get(i))) {
                fails("something is another one than before (" + i + "): " + one + " not " + other);
                return;
            }
        }
    }

    /** What can be asked of an object: section 1, the sheets, then what the tape and the image hold. */
    private static List<Long> everything(TwentyPhrases x) {
        List<Long> told = new ArrayList<>();
        tellSectionOne(x, told);
        for (int s = 0; s < 4; s++) {
            tellSheet(x, s, told);
        }
        told.add((long) x.book());
        tellCounts(x, told);
        told.add((long) x.undo());
        tellSectionOne(x, told);
        return told;
    }

    private static void tellCounts(TwentyPhrases x, List<Long> told) {
        for (int what = 0; what <= 5; what++) {
            told.add((long) x.count(what));
        }
        for (int what = 0; what <= 3; what++) {
            told.add((long) x.now(what));
        }
    }

    private static void tellSectionOne(TwentyPhrases x, List<Long> told) {
        tellCounts(x, told);
        // Asked once each: an object is good for 512 calls only.
        int phrases = x.count(0);
        int wants = x.count(1);
        int queued = x.count(2);
        for (int phrase = 0; phrase < phrases; phrase++) {
            for (int what = 0; what <= 5; what++) {
                told.add((long) x.of(phrase, what));
            }
        }
        for (int want = 0; want < wants; want++) {
            for (int what = 0; what <= 4; what++) {
                told.add((long) x.wantOf(want, what));
            }
        }
        for (int i = 0; i < queued; i++) {
            told.add((long) x.ith(i));
        }
    }

    /** Its numbers, then one that tells of how many bits they are. */
    private static void tellSheet(TwentyPhrases x, int s, List<Long> told) {
        for (int i = 0; i <= 40; i++) {
            long was = x.write(s, i, 0);
            told.add(was);
            if (was == MISSING || was == BEYOND) {
                break;
            }
        }
        x.write(s, 0, 0x100000301L);
        told.add(x.write(s, 0, 0));
    }

    static void feed(TwentyPhrases x, String text) {
        for (int i = 0; i < text.length(); i++) {
            x.feed(text.charAt(i), 1);
        }
    }

    /** What book() answers to a text of 120 bytes at most. */
    static int book(TwentyPhrases x, String text) {
        x.wipe();
        feed(x, text);
        return x.book();
    }

    /** PHRASES of 5 minutes and of sound 10 with these kinds, all of topic 0. */
    static TwentyPhrases ofKinds(int... kinds) {
        TwentyPhrases x = new TwentyPhrases();
        for (int kind : kinds) {
            x.phrase(kind, 0, 5, 10);
        }
        return x;
    }

    /** A book in midst of use: some of all that an object can hold. */
    static TwentyPhrases usual() {
        TwentyPhrases x = new TwentyPhrases();
        for (int kind = PHRASE; kind <= URGENT; kind++) {
            x.phrase(kind, kind % 3, 4 + kind, 5 + kind);
        }
        x.image();
        x.want(0, 50, 0);
        x.want(1, 60, 1);
        x.want(2, 70, 3);
        x.change(1, HURRY, 1);
        x.change(2, COUNT, 1);
        x.queue(5);
        x.queue(1);
        x.queue(2);
        x.line(55);
        for (int phrase = 0; phrase < 6; phrase++) {
            x.set(phrase, HELD, 60 + 7 * phrase);
        }
        x.days(1);
        feed(x, "line 33");
        x.sheet(0, 8, 3);
        x.write(0, 1, 7);
        x.sheet(1, 16, 5);
        x.write(1, 4, 300);
        x.sheet(2, 64, 2);
        x.write(2, 0, 1L << 40);
        return x;
    }

    /** Twelve PHRASES, twelve WANTS of day 0 and all twelve in THE ORDER. */
    static TwentyPhrases full() {
        TwentyPhrases x = new TwentyPhrases();
        for (int i = 0; i < 12; i++) {
            x.phrase(i % 6, i % 10, 1 + i, i % 11);
            x.want(i % 10, 8 * i, 0);
            x.queue(i);
        }
        return x;
    }

    /** The usual book on a later DAY (1 at least). */
    static TwentyPhrases usualOn(int day) {
        TwentyPhrases x = usual();
        goTo(x, day);
        return x;
    }

    static void goTo(TwentyPhrases x, int day) {
        while (x.now(0) < day) {
            x.days(Math.min(30, day - x.now(0)));
        }
    }
}
