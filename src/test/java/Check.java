/** Counts answers: those that are due and those that are not. */
final class Check {
    static int passed = 0;
    static int failed = 0;
    /** The test that runs: it stands before what is printed. */
    static String within = "";

    private Check() {
    }

    static void due(String what, long got, long want) {
        if (got == want) {
            passed++;
        } else {
            failed++;
            if (failed <= 50) {
                System.out.println(within + what + " answered " + got + ", due is " + want);
            }
        }
    }

    /** Says a text; the answers are not looked at. */
    static void say(SidingOrders x, String text) {
        for (int i = 0; i < text.length(); i++) {
            x.say(text.charAt(i));
        }
    }

    static SidingOrders on(String text) {
        SidingOrders x = new SidingOrders();
        lay(x, text);
        return x;
    }

    static void lay(SidingOrders x, String text) {
        x.wipe();
        say(x, text);
        due("yard() of " + text, x.yard() >= 1 ? 1 : 0, 1);
    }
}
