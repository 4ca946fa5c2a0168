import java.util.ArrayList;
import java.util.List;

/** Every boundary case that the document names, each a method named after its promise. */
public final class EdgesTest {
    private static final Class<?>[] CASES = {TermEdges.class, PhraseEdges.class, WantEdges.class, PlanEdges.class,
        LearningEdges.class, DayEdges.class, TextEdges.class, SheetEdges.class, ImageEdges.class};

    private EdgesTest() {
    }

    public static void main(String[] args) throws IllegalAccessException {
        List<String> names = new ArrayList<>();
        for (Class<?> cases : CASES) {
            names.addAll(Edges.run(cases));
        }
        int wrong = Edges.wrongAnswers();
        for (int promise = 1; promise <= 45; promise++) {
            String name = String.format("promise%02d", promise);
            if (names.stream().noneMatch(each -> each.startsWith(name))) {
                wrong++;
                System.out.println("no boundary case is named after " + name);
            }
        }
        System.out.println(wrong == 0 ? "all " + names.size() + " boundary cases hold" : wrong + " answers are not as due");
        if (wrong != 0) {
            System.exit(1);
        }
    }
}
