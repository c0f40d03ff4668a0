import java.io.IOException;
import java.nio.file.Files;
import java.nio.file.Path;
import java.util.List;

/** The sentences that Edges quote are those of the document, and no promise is left out. */
final class DocumentTests {
    private DocumentTests() {
    }

    static void sentences(String[] args, List<Edges.Edge> edges) {
        for (int promise = Edges.WHAT_IT_IS; promise <= PromiseTests.LAST; promise++) {
            int of = promise;
            Check.due("edges of promise " + of, edges.stream().anyMatch(edge -> edge.promise() == of), true);
        }
        if (args.length < 2 || !Files.exists(Path.of(args[1]))) {
            System.out.println("the document is not here: the sentences are not looked up");
            return;
        }
        try {
            String[] parts = Files.readString(Path.of(args[1])).replaceAll("\\s+", " ").split(" ## ");
            for (Edges.Edge edge : edges) {
                Check.due(edge.name() + " stands in the document", stands(parts, edge), true);
            }
        } catch (IOException e) {
            Check.fail("the document can't be read: " + e);
        }
    }

    private static boolean stands(String[] parts, Edges.Edge edge) {
        for (String part : parts) {
            boolean isItsPart = switch (edge.promise()) {
                case Edges.TERMS -> part.startsWith("Terms ");
                case Edges.WHAT_IT_IS -> part.startsWith("What it is ") || part.startsWith("The public face ");
                default -> part.startsWith("Promise " + edge.promise() + ": ");
            };
            if (isItsPart && part.contains(edge.sentence())) {
                return true;
            }
        }
        return false;
    }
}
