import java.util.List;

/** Runs every test of the project; ends with exit code 1 if one fails. */
public final class AllTests {
    private interface Test {
        void run();
    }

    private static int passed = 0;
    private static int failed = 0;

    private AllTests() {
    }

    private static void run(String name, Test test) {
        int wrongBefore = Check.wrong();
        try {
            test.run();
        } catch (RuntimeException | StackOverflowError e) {
            Check.fail(name + " threw " + e);
            e.printStackTrace(System.out);
        }
        if (Check.wrong() == wrongBefore) {
            passed++;
        } else {
            failed++;
            System.out.println("FAILED: " + name);
        }
    }

    public static void main(String[] args) {
        for (int promise = 1; promise <= PromiseTests.LAST; promise++) {
            int number = promise;
            run("promise " + number, () -> PromiseTests.promise(number));
        }
        run("refused calls", PromiseTests::refusedCalls);
        List<Edges.Edge> edges = Edges.all();
        for (Edges.Edge edge : edges) {
            run(edge.name(), () -> edge.test().run());
        }
        run("the sentences are the document's", () -> DocumentTests.sentences(args, edges));
        run("random runs against the model", ModelTests::randomRuns);
        run("random texts against the model", ModelTests::randomTexts);
        run("any arguments", ModelTests::anyArguments);
        run("the readme is so", () -> ReadmeTests.readme(args));
        run("the source keeps to the language", () -> SourceTests.source(args));
        System.out.println(Check.asked() + " answers asked");
        System.out.println(passed + " passed, " + failed + " failed");
        if (failed != 0) {
            System.exit(1);
        }
    }
}
