import java.lang.reflect.InvocationTargetException;
import java.lang.reflect.Method;
import java.util.Arrays;
import java.util.Comparator;

/**
 * What the edge tests share: each static method whose name begins with "terms" or "promise" and its number is a test
 * of its own; objects in states in which much could be changed; and refused calls, of which nothing must be left.
 */
final class Edges {
    static final int UNKNOWN = -1, OUTSIDE = -2, STATE = -3, FULL = -4, NO = -5, NONE = -6;
    static final int MIN = Integer.MIN_VALUE, MAX = Integer.MAX_VALUE;
    /** No TRAINS: too few and too many wagons, a wagon twice, one too high, a 0, below 0. */
    static final int[] NO_TRAINS = {0, 2, 9, 10, 11, 13, 20, 22, 31, 102, 120, 122, 124, 224, 333, 1023, 1224, 1235,
        2340, 11111, 12340, 12344, 12346, 12355, 54320, 54322, 55555, 66666, 123450, 123451, 123456, 543216, 654321,
        1234512345, -1, -12, -21, -12345, MIN, MAX};
    static final int[] NO_SIZES = {0, -1, -5, 6, 7, 12, MIN, MAX};
    private static final int PROMISES = 29;

    private Edges() {
    }

    interface Call {
        long on(SidingOrders x);
    }

    interface Made {
        SidingOrders made();
    }

    static void run() {
        Class<?>[] classes = {TermsEdges.class, YardEdges.class, OrderEdges.class, SortedEdges.class, PlayEdges.class,
            ThumbEdges.class, ImageEdges.class, CallsEdges.class};
        boolean[] tested = new boolean[PROMISES + 1];
        for (Class<?> one : classes) {
            Method[] methods = one.getDeclaredMethods();
            Arrays.sort(methods, Comparator.comparing(Method::getName));
            for (Method method : methods) {
                if (method.getName().matches("terms.*|promise\\d+.*")) {
                    runOne(method);
                    tested[promiseOf(method.getName())] = true;
                }
            }
        }
        Check.within = "";
        for (int promise = 1; promise <= PROMISES; promise++) {
            Check.due("tests of promise " + promise, tested[promise] ? 1 : 0, 1);
        }
    }

    private static int promiseOf(String name) {
        return name.startsWith("terms") ? 0 : Integer.parseInt(name.replaceAll("^promise(\\d+).*", "$1"));
    }

    private static void runOne(Method method) {
        Check.within = method.getName() + ": ";
        int before = Check.passed + Check.failed;
        try {
            method.invoke(null);
        } catch (InvocationTargetException thrown) {
            Check.due("ended with " + thrown.getCause(), 1, 0);
        } catch (IllegalAccessException closed) {
            Check.due("can not be run", 1, 0);
        }
        if (Check.passed + Check.failed == before) {
            Check.due("looks at nothing", 1, 0);
        }
    }

    static void due(String what, long got, long want) {
        Check.due(what, got, want);
    }

    // ---- objects

    /** YARD, THE OTHER one, THE PLAY, both IMAGES and the PAD are all different from a new object's. */
    static SidingOrders busy() {
        SidingOrders x = Check.on("q2s1");
        x.image(0);
        x.keep();
        Check.lay(x, "s3d1");
        x.play(213, 123);
        x.move(10);
        x.image(1);
        x.keep();
        Check.lay(x, "d2-;s1q2");
        x.play(3142, 1234);
        x.move(10);
        x.move(11);
        x.move(20);
        Check.say(x, "s3;q");
        return x;
    }

    /** As busy(), but THE PLAY is gone with its YARD. */
    static SidingOrders resting() {
        SidingOrders x = busy();
        x.wipe();
        Check.lay(x, "q3;d2s1");
        Check.say(x, "-d");
        return x;
    }

    static SidingOrders padded(String text) {
        SidingOrders x = new SidingOrders();
        Check.say(x, text);
        return x;
    }

    static SidingOrders playing(String yard, int train, int order, int... moves) {
        SidingOrders x = Check.on(yard);
        x.play(train, order);
        for (int i = 0; i < moves.length; i++) {
            due("move(" + moves[i] + ") of " + train + " in " + yard, x.move(moves[i]), i + 1);
        }
        return x;
    }

    // ---- refused calls

    /** The call is refused, again and again, and a twin that was never asked is then the same in all. */
    static void refused(String what, Made made, Call call, long want) {
        SidingOrders x = made.made();
        due(what, call.on(x), want);
        due(what + " once more", call.on(x), want);
        same(what + " changed", x, made.made());
    }

    /** In several states alike. */
    static void refusedAnywhere(String what, Call call, long want) {
        refused(what + " of a new object", SidingOrders::new, call, want);
        refused(what + " of a busy one", Edges::busy, call, want);
        refused(what + " without a PLAY", Edges::resting, call, want);
    }

    /** Uses both objects up. */
    static void same(String what, SidingOrders one, SidingOrders two) {
        String a = Sight.of(one);
        String b = Sight.of(two);
        due(what, a.equals(b) ? 0 : 1, 0);
    }
}
