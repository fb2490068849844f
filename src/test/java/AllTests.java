import java.io.IOException;
import java.nio.file.Path;

/** All tests of the project; the argument is the program's source. */
final class AllTests {
    /** Some hundred times as long as the tests need: what runs so long would never end. */
    private static final long MOST_MILLIS = 900_000L;
    /** Not 1: .ci/run must know that other tests may not end either. */
    private static final int ENDLESS = 2;

    private AllTests() {
    }

    public static void main(String[] args) throws IOException, ReflectiveOperationException {
        endAtLast();
        PromiseTest.run();
        Edges.run();
        ModelTest.run();
        RunsTest.run();
        FuzzTest.run();
        LanguageTest.run(Path.of(args.length > 0 ? args[0] : "src/main/java/SidingOrders.java"));
        ReadmeTest.run(Path.of("README.md"));
        System.out.println(Check.passed + " passed, " + Check.failed + " failed");
        if (Check.failed > 0) {
            System.exit(1);
        }
    }

    /** A call that does not end is a fault, too. */
    private static void endAtLast() {
        Thread watch = new Thread(() -> {
            try {
                Thread.sleep(MOST_MILLIS);
            } catch (InterruptedException ended) {
                return;
            }
            System.out.println(Check.within + "a call does not end");
            Runtime.getRuntime().halt(ENDLESS);
        });
        watch.setDaemon(true);
        watch.start();
    }
}
