import java.lang.reflect.Method;
import java.nio.file.Path;
import java.util.ArrayList;
import java.util.Comparator;
import java.util.HashSet;
import java.util.List;
import java.util.Set;

/**
 * The document's boundary cases, sentence by sentence: each test names the promise and the words that it holds, which
 * must stand there; and all words of the Terms and of the promises must be held by some test.
 */
public final class EdgesTest {
    private static final List<Class<? extends Edges>> ALL = List.of(PeopleEdges.class, DayEdges.class,
            CountEdges.class, StreetEdges.class, PairEdges.class, SaidEdges.class, PlanEdges.class, ImageEdges.class,
            ActEdges.class, TapeEdges.class, OrderEdges.class, RefusedEdges.class);

    public static void main(String[] args) throws Exception {
        Document document = new Document(Path.of("../shared/DOC.md"));
        Check check = new Check();
        check.due("promises of the document", document.promises(), 32);
        Set<Integer> promises = new HashSet<>();
        for (Class<? extends Edges> edges : ALL) {
            for (Method test : tests(edges)) {
                Holds holds = test.getAnnotation(Holds.class);
                promises.add(holds.promise());
                check.isAbout("promise " + holds.promise() + ", \"" + holds.says() + "\" (" + edges.getSimpleName()
                        + "." + test.getName() + "): ");
                check.due("the document says so", document.holds(holds.promise(), holds.says()) ? 1 : 0, 1);
                runs(edges, test, check);
            }
        }
        check.isAbout("");
        check.due("promises held", promises.size(), 32);
        for (String words : document.rest()) {
            check.due("tests that hold, of " + words, 0, 1);
        }
        check.end();
    }

    private static List<Method> tests(Class<? extends Edges> edges) {
        List<Method> tests = new ArrayList<>();
        for (Method method : edges.getDeclaredMethods()) {
            if (method.isAnnotationPresent(Holds.class)) {
                tests.add(method);
            }
        }
        tests.sort(Comparator.comparing(Method::getName));
        return tests;
    }

    private static void runs(Class<? extends Edges> edges, Method test, Check check) throws Exception {
        int before = check.howManyAsked();
        Edges one = edges.getDeclaredConstructor().newInstance();
        one.answersTo(check);
        test.invoke(one);
        check.due("the test asks something", check.howManyAsked() > before ? 1 : 0, 1);
    }
}
