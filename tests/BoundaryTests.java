import java.lang.reflect.InvocationTargetException;
import java.lang.reflect.Method;
import java.nio.file.Files;
import java.nio.file.Path;
import java.util.List;
import java.util.function.Supplier;

/** Runs the tests of the document's edges: one method for each sentence that names one. */
public final class BoundaryTests {
    private static final List<Supplier<Edge>> EDGES = List.of(TextEdges::new, FaultEdges::new, HouseEdges::new, DeedEdges::new,
        TriedEdges::new, SightEdges::new, ImageEdges::new, RefusalEdges::new);
    private static final Path DOCUMENT = Path.of("../shared/DOC.md");

    private static int passed = 0;
    private static int failed = 0;

    public static void main(String[] args) throws Exception {
        String document = Files.exists(DOCUMENT) ? Files.readString(DOCUMENT) : "";
        for (Supplier<Edge> edge : EDGES) {
            for (Method test : edge.get().getClass().getDeclaredMethods()) {
                Says says = test.getAnnotation(Says.class);
                if (says == null) continue;
                // A later document may word it otherwise: that alone is no fault of the class.
                if (!document.contains(says.value())) System.out.println("not in the document: " + says.value());
                run(edge.get(), test, says.value());
            }
        }
        System.out.println("BoundaryTests: " + passed + " passed, " + failed + " failed");
        if (failed > 0) System.exit(1);
    }

    private static void run(Edge edge, Method test, String sentence) throws IllegalAccessException {
        String wrong;
        try {
            test.invoke(edge);
            wrong = edge.wrong();
        } catch (InvocationTargetException e) {
            wrong = edge.wrong() + "\n  threw " + e.getCause();
        }
        if (wrong.isEmpty()) {
            passed++;
            return;
        }
        failed++;
        System.out.println(test.getDeclaringClass().getName() + "." + test.getName() + ", for \"" + sentence + "\":" + wrong);
    }
}
