import java.lang.reflect.Method;
import java.lang.reflect.Modifier;
import java.nio.file.Files;
import java.nio.file.Path;
import java.util.HashMap;
import java.util.Map;
import java.util.regex.Matcher;
import java.util.regex.Pattern;

/** README.md shows calls with their answers: each must be what the class answers. */
public final class ReadmeTest {
    private static final Pattern ROW = Pattern.compile("(?:int (\\w+) = )?x\\.(\\w+)\\(([^)]*)\\); +// (-?\\d+)(?:: .*)?");

    private static int wrong = 0;

    private static void must(boolean holds, String what) {
        if (!holds) {
            wrong++;
            System.out.println("README.md: " + what);
        }
    }

    public static void main(String[] args) throws Exception {
        Path root = Path.of(args.length > 0 ? args[0] : ".");
        String page = Files.readString(root.resolve("README.md"));
        Map<String, Method> face = face();
        calls(block(page, "java"), face);
        text(block(page, "text").strip());
        for (String name : face.keySet()) {
            must(page.contains("`" + name + "`"), "names no " + name);
        }
        System.out.println(wrong == 0 ? "README.md tells what is so" : wrong + " places of README.md are wrong");
        if (wrong != 0) {
            System.exit(1);
        }
    }

    private static Map<String, Method> face() {
        Map<String, Method> face = new HashMap<>();
        for (Method m : TwentyPhrases.class.getDeclaredMethods()) {
            if (Modifier.isPublic(m.getModifiers())) {
                face.put(m.getName(), m);
            }
        }
        return face;
    }

    private static String block(String page, String language) {
        Matcher m = Pattern.compile("(?s)```" + language + "\n(.*?)```").matcher(page);
        boolean there = m.find();
        must(there, "has no example in " + language);
        return there ? m.group(1) : "";
    }

    private static void calls(String example, Map<String, Method> face) throws Exception {
        TwentyPhrases x = new TwentyPhrases();
        Map<String, Integer> named = new HashMap<>();
        int rows = 0;
        for (String line : example.split("\n")) {
            if (line.equals("TwentyPhrases x = new TwentyPhrases();")) {
                continue;
            }
            Matcher row = ROW.matcher(line);
            if (!row.matches() || !face.containsKey(row.group(2))) {
                must(false, "is no call with an answer: " + line);
                continue;
            }
            rows++;
            long got = call(x, face.get(row.group(2)), row.group(3), named);
            must(got == Long.parseLong(row.group(4)), line + " but the answer is " + got);
            if (row.group(1) != null) {
                named.put(row.group(1), (int) got);
            }
        }
        must(rows > 0, "shows no call");
    }

    private static long call(TwentyPhrases x, Method method, String told, Map<String, Integer> named) throws Exception {
        String[] words = told.isEmpty() ? new String[0] : told.split(", ");
        Class<?>[] types = method.getParameterTypes();
        Object[] values = new Object[words.length];
        for (int i = 0; i < words.length; i++) {
            int v = named.containsKey(words[i]) ? named.get(words[i]) : Integer.parseInt(words[i]);
            if (i < types.length && types[i] == long.class) {
                values[i] = (long) v;
            } else {
                values[i] = v;
            }
        }
        return ((Number) method.invoke(x, values)).longValue();
    }

    private static void text(String told) {
        TwentyPhrases x = new TwentyPhrases();
        for (char c : told.toCharArray()) {
            x.feed(c, 1);
        }
        int items = told.split(";").length;
        must(x.count(3) == told.length(), "the text is too long for the tape");
        int came = x.book();
        must(came == items, "the text has " + items + " items, book() answers " + came);
    }
}
