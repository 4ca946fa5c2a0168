import java.lang.reflect.Method;
import java.util.ArrayList;
import java.util.Arrays;
import java.util.List;

/** Long mixed runs of calls on the class and on PlainBook: each answer must be the same. */
public final class AgainstPlainBookTest {
    private static final int CALLS = 512;
    private static final String[] DEAR = {"best", "minutesFor", "plan", "tonight", "greedy", "forgot", "read"};

    private final Method[] methods;
    private long seed;
    private int wrong = 0;

    private AgainstPlainBookTest() {
        List<Method> found = new ArrayList<>();
        for (Method m : TwentyPhrases.class.getDeclaredMethods()) {
            if (java.lang.reflect.Modifier.isPublic(m.getModifiers())) {
                found.add(m);
            }
        }
        found.sort((a, b) -> a.getName().compareTo(b.getName()));
        methods = found.toArray(new Method[0]);
    }

    public static void main(String[] args) throws Exception {
        AgainstPlainBookTest test = new AgainstPlainBookTest();
        int runs = args.length > 1 ? Integer.parseInt(args[1]) : 200;
        for (int run = 1; run <= runs && test.wrong == 0; run++) {
            test.run(run);
        }
        System.out.println(test.wrong == 0 ? "all runs agree" : "runs disagree");
        if (test.wrong != 0) {
            System.exit(1);
        }
    }

    private int below(int n) {
        seed = seed * 6364136223846793005L + 1442695040888963407L;
        return (int) ((seed >>> 33) % n);
    }

    private void run(int run) throws Exception {
        seed = run * 7919L;
        TwentyPhrases x = new TwentyPhrases();
        PlainBook plain = new PlainBook();
        List<String> log = new ArrayList<>();
        int phrases = below(4) == 0 ? 12 : below(9);
        int wants = below(4) == 0 ? 12 : below(10);
        int late = below(2) == 0 ? 0 : below(4);
        int made = 0;
        while (made < CALLS && wrong == 0) {
            if (made < late) {
                made += due(x, plain, log, "days", 30);
            } else if (made < late + phrases) {
                made += due(x, plain, log, "phrase", below(6), below(3), 1 + below(12), below(11));
            } else if (made < late + phrases + wants) {
                made += due(x, plain, log, "want", below(3), below(100), 30 * late + below(40));
            } else if (below(30) == 0 && made < CALLS - 200) {
                made += text(x, plain, log);
            } else {
                made += any(x, plain, log);
            }
        }
    }

    private int any(TwentyPhrases x, PlainBook plain, List<String> log) throws Exception {
        Method m = methods[below(methods.length)];
        if (Arrays.asList(DEAR).contains(m.getName()) && below(3) != 0) {
            return 0;
        }
        if (m.getName().equals("undo") && below(4) != 0 || m.getName().equals("days") && below(3) != 0) {
            return 0;
        }
        long[] a = new long[m.getParameterCount()];
        for (int i = 0; i < a.length; i++) {
            a[i] = below(25) == 0 ? wild() : likely(m.getName(), i, plain);
        }
        return due(x, plain, log, m.getName(), a);
    }

    private long wild() {
        long[] some = {-1, -2, Integer.MIN_VALUE, Integer.MAX_VALUE, 12, 13, 41, 61, 101, 601, 721, 4096, 1 << 20};
        return some[below(some.length)];
    }

    /** A number that is mostly fit for that place of a call, and sometimes just beyond it. */
    private long likely(String name, int place, PlainBook plain) {
        int phrases = plain.st.phrases.size();
        int wants = plain.st.wants.size();
        switch (name + place) {
            case "phrase0": case "turn1": case "as1": return below(6);
            case "phrase1": case "want0": return below(4);
            case "phrase2": return below(61);
            case "phrase3": return below(11);
            case "of0": case "set0": case "turn0": case "as0": case "gain0": case "queue0": case "skip0":
            case "learn0": case "forgot0": return below(phrases + 1);
            case "of1": return below(9);
            case "set1": case "change1": return below(6);
            case "set2": return below(3) == 0 ? below(110) : below(11);
            case "want1": case "want2": return below(101);
            case "wantOf0": case "change0": case "met0": case "by0": case "gain1": return below(wants + 1);
            case "wantOf1": return below(6);
            case "change2": return below(2) == 0 ? below(2) : plain.st.day + below(8);
            case "gain2": case "met1": case "by1": case "value0": case "next0": case "spare0":
                return below((1 << phrases) + 1);
            case "plan0": return below(1 << phrases) & (below(6) == 0 ? -1 : below(1 << phrases) & below(1 << phrases));
            case "best0": case "greedy0": return below(3) == 0 ? below(722) : below(40);
            case "best1": case "greedy1": return below(3);
            case "minutesFor0": return below(600);
            case "ith0": return below(plain.st.order.size() + 1);
            case "learn1": return below(12);
            case "evening0": case "plan1": return below(50);
            case "line0": return below(4) == 0 ? below(102) : 40 + below(40);
            case "days0": return 1 + below(4);
            case "now0": return below(5);
            case "on0": case "useless0": case "tonight0": case "plan2": return below(62);
            case "on1": return below(4);
            case "plan3": return below(7) - 1;
            case "feed0": return (int) (below(1 << 16) << 16 | below(1 << 16));
            case "feed1": return below(6);
            case "sheet0": case "write0": case "copy0": case "copy2": case "lays0": case "read0": return below(4);
            case "sheet1": return new int[] {0, 8, 8, 16, 16, 64, 64, 32}[below(8)];
            case "sheet2": return below(42);
            case "write1": return below(6);
            case "write2": return below(3) == 0 ? ((long) below(1 << 30) << 33) + below(70000) : plain.st.score + below(2);
            case "copy1": case "copy3": case "copy4": return below(8);
            case "count0": return below(7);
            case "status0": return below(9) - 1;
            default: return below(100);
        }
    }

    private int text(TwentyPhrases x, PlainBook plain, List<String> log) throws Exception {
        String text = items();
        // Now and then more than the tape takes.
        text = below(20) == 0 ? text + ";" + items() + ";" + items() + ";" + items() : text;
        byte[] bytes = spoil(text).getBytes(java.nio.charset.StandardCharsets.ISO_8859_1);
        int made = below(8) == 0 ? 0 : due(x, plain, log, "wipe");
        int at = 0;
        while (at < bytes.length) {
            int n = Math.min(1 + below(4), bytes.length - at);
            int number = below(1 << 30);
            for (int i = 0; i < n; i++) {
                number = number << 8 | bytes[at++] & 255;
            }
            made += due(x, plain, log, "feed", number, n);
        }
        return made + due(x, plain, log, "book");
    }

    private String items() {
        StringBuilder s = new StringBuilder();
        int n = 1 + below(4);
        for (int i = 0; i < n; i++) {
            s.append(i == 0 ? "" : ";").append(blanks()).append(item());
        }
        return s.toString();
    }

    private String item() {
        String kind = PlainBook.Text.NAMES.get(below(6));
        switch (below(5)) {
            case 0:
                return "line " + below(103);
            case 1:
                StringBuilder s = new StringBuilder("order");
                int start = below(4);
                for (int i = below(4); i >= 0; i--) {
                    s.append(' ').append(below(5) == 0 ? below(13) : start + i);
                }
                return s.toString();
            case 2:
                return "want" + blanks() + below(11) + "worth " + below(102) + " day" + blanks() + below(101)
                    + (below(2) == 0 ? " hurry" : "") + (below(2) == 0 ? " count" : "");
            default:
                return kind + blanks() + below(11) + (below(2) == 0 ? "minutes " + below(62) : "")
                    + (below(2) == 0 ? " sound" + blanks() + below(12) : "");
        }
    }

    private String blanks() {
        return new String[] {"", "", " ", " ", "  "}[below(5)];
    }

    /** Now and then a byte is lost, doubled, or another one. */
    private String spoil(String text) {
        if (below(2) == 0) {
            return text;
        }
        int at = below(text.length());
        String[] instead = {"", "  ", ";", "0", "1000", "A", "#", "\t", "\u00e9", "count", "minutes", " "};
        return text.substring(0, at) + instead[below(instead.length)] + text.substring(at + below(2));
    }

    private int due(TwentyPhrases x, PlainBook plain, List<String> log, String name, long... a) throws Exception {
        String call = name + Arrays.toString(a);
        log.add(call);
        long want = plain.call(name, a);
        long got;
        try {
            got = answer(x, name, a);
        } catch (java.lang.reflect.InvocationTargetException e) {
            wrong++;
            System.out.println(log + " threw " + e.getCause());
            return 1;
        }
        if (got != want) {
            wrong++;
            System.out.println(log + " answered " + got + ", due is " + want);
        }
        return 1;
    }

    private long answer(TwentyPhrases x, String name, long[] a) throws Exception {
        for (Method m : methods) {
            if (m.getName().equals(name)) {
                Object[] args = new Object[a.length];
                for (int i = 0; i < a.length; i++) {
                    args[i] = m.getParameterTypes()[i] == long.class ? (Object) a[i] : (Object) (int) a[i];
                }
                return ((java.lang.Number) m.invoke(x, args)).longValue();
            }
        }
        throw new IllegalStateException(name);
    }
}
