import java.io.IOException;
import java.nio.file.Path;

/** All tests of the project; the argument is the program's source. */
final class AllTests {
    private AllTests() {
    }

    public static void main(String[] args) throws IOException {
        PromiseTest.run();
        Edges.run();
        ModelTest.run();
        RunsTest.run();
        FuzzTest.run();
        LanguageTest.run(Path.of(args.length > 0 ? args[0] : "src/main/java/SidingOrders.java"));
        System.out.println(Check.passed + " passed, " + Check.failed + " failed");
        if (Check.failed > 0) {
            System.exit(1);
        }
    }
}
