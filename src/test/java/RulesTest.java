import java.lang.reflect.Constructor;
import java.lang.reflect.Field;
import java.lang.reflect.Method;
import java.lang.reflect.Modifier;
import java.nio.file.Files;
import java.nio.file.Path;
import java.util.ArrayList;
import java.util.Arrays;
import java.util.HashSet;
import java.util.List;
import java.util.Set;
import java.util.TreeSet;
import java.util.regex.Matcher;
import java.util.regex.Pattern;

/** The face that the document lists, and those rules of LANGUAGE.md that can be seen from outside. */
public final class RulesTest {
    private static int wrong = 0;

    private static void must(boolean holds, String rule) {
        if (!holds) {
            wrong++;
            System.out.println("broken: " + rule);
        }
    }

    public static void main(String[] args) throws Exception {
        Path root = Path.of(args.length > 0 ? args[0] : ".");
        String doc = Files.readString(root.resolve("../shared/DOC.md"));
        String source = Files.readString(root.resolve("src/main/java/TwentyPhrases.java"));
        face(doc);
        members();
        words(bare(source));
        lengths(source);
        System.out.println(wrong == 0 ? "the rules are kept" : wrong + " rules are broken");
        if (wrong != 0) {
            System.exit(1);
        }
    }

    private static void face(String doc) {
        Set<String> due = new TreeSet<>();
        Matcher m = Pattern.compile("    public (int|long) (\\w+)\\(([^)]*)\\);").matcher(doc);
        while (m.find()) {
            String types = m.group(3).replaceAll("(int|long) \\w+", "$1").replace(", ", ",");
            due.add(m.group(1) + " " + m.group(2) + "(" + types + ")");
        }
        must(due.size() == 44, "the document lists 44 methods, found " + due.size());
        Set<String> there = new TreeSet<>();
        for (Method method : TwentyPhrases.class.getDeclaredMethods()) {
            if (Modifier.isPublic(method.getModifiers())) {
                List<String> types = new ArrayList<>();
                for (Class<?> type : method.getParameterTypes()) {
                    types.add(type.getName());
                }
                must(!Modifier.isStatic(method.getModifiers()), method.getName() + " is no static method");
                there.add(method.getReturnType() + " " + method.getName() + "(" + String.join(",", types) + ")");
            }
        }
        must(due.equals(there), "the face is " + due + " but there is " + there);
    }

    private static void members() {
        Class<?> face = TwentyPhrases.class;
        must(Modifier.isPublic(face.getModifiers()) && Modifier.isFinal(face.getModifiers()), "public and final");
        Constructor<?>[] made = face.getDeclaredConstructors();
        must(made.length == 1 && Modifier.isPublic(made[0].getModifiers()), "one public constructor");
        Set<String> names = new HashSet<>();
        for (Method m : face.getDeclaredMethods()) {
            if (Modifier.isPublic(m.getModifiers())) {
                names.add(m.getName());
            } else {
                must(Modifier.isPrivate(m.getModifiers()), m + " is private");
            }
        }
        for (Field f : face.getDeclaredFields()) {
            must(Modifier.isPrivate(f.getModifiers()), f + " is private");
        }
        List<Class<?>> all = new ArrayList<>(Arrays.asList(face.getDeclaredClasses()));
        must(all.size() <= 11, "some twelve classes at most");
        for (Class<?> inside : all) {
            must(Modifier.isStatic(inside.getModifiers()), inside + " is static");
        }
        all.add(face);
        for (Class<?> each : all) {
            fewEnough(each, names);
        }
    }

    private static void fewEnough(Class<?> each, Set<String> names) {
        int fields = 0;
        for (Field f : each.getDeclaredFields()) {
            boolean constant = Modifier.isStatic(f.getModifiers());
            must(!constant || Modifier.isFinal(f.getModifiers()), f + " is final");
            fields += constant ? 0 : 1;
        }
        must(fields <= 20, each + " has some twenty fields");
        for (Method m : each.getDeclaredMethods()) {
            must(m.getParameterCount() <= 7, m + " takes at most seven parameters");
            must(Modifier.isPublic(m.getModifiers()) || !names.contains(m.getName()), m + " bears a name of the face");
        }
    }

    /** The source without comments, signs and texts. */
    private static String bare(String source) {
        return source.replaceAll("(?s)/\\*.*?\\*/", " ").replaceAll("//[^\n]*", " ")
            .replaceAll("\"[^\"\n]*\"", "\"\"").replaceAll("'[^'\n]+'", "' '");
    }

    private static void words(String code) {
        String[] never = {"throw", "throws", "try", "catch", "finally", "synchronized", "assert", "package", "volatile",
            "Object", "native", "Exact", "var", "protected", "Thread", "Random", "Float", "Double", "HashMap"};
        for (String word : never) {
            must(!Pattern.compile("\\b" + word + "\\b").matcher(code).find(), "no " + word);
        }
        must(!code.contains("->") && !code.contains("::"), "no lambda and no method reference");
        must(!code.contains("@"), "no annotation");
        must(!Pattern.compile("static\\s*\\{").matcher(code).find(), "no static initialiser block");
        Matcher made = Pattern.compile("(?m)^.*\\bnew\\b.*$").matcher(code);
        while (made.find()) {
            must(made.group().contains(" final "), "all that is made is made with the object: " + made.group().trim());
        }
        Matcher calls = Pattern.compile("\\b(System|Math|Integer|Long|Arrays)\\.(\\w+)").matcher(code);
        Set<String> fine = Set.of("System.arraycopy", "Math.min", "Math.max", "Integer.bitCount",
            "Integer.numberOfTrailingZeros");
        while (calls.find()) {
            must(fine.contains(calls.group()), "the library has " + calls.group());
        }
    }

    private static void lengths(String source) {
        String[] lines = source.split("\n");
        int start = -1;
        String indent = "";
        for (int i = 0; i < lines.length; i++) {
            must(lines[i].length() <= 120, "line " + (i + 1) + " is not too long");
            Matcher m = Pattern.compile("^(    |        )(?!static final|private static final class|final)\\w.*\\) \\{$")
                .matcher(lines[i]);
            if (start < 0 && m.find()) {
                start = i;
                indent = m.group(1);
            } else if (start >= 0 && lines[i].equals(indent + "}")) {
                must(i - start < 60, "the method at line " + (start + 1) + " is short");
                start = -1;
            }
        }
    }
}
