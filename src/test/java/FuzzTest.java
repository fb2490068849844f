import java.util.ArrayList;
import java.util.HashSet;
import java.util.List;
import java.util.Set;

/**
 * Calls with any numbers: none throws, refused ones change nothing, calls that only ask change nothing; and THE FAULT
 * against all texts that can be a YARD.
 */
final class FuzzTest {
    private static final int[] FAR = {Integer.MIN_VALUE, -1000000007, 100, 32767, 54322, 99999, 123450, 1 << 30,
        Integer.MAX_VALUE};
    private static final int STATE_CALLS = 10;
    private static long state = 4711L;

    private FuzzTest() {
    }

    static void run() {
        for (int i = 0; i < 60; i++) {
            anyCalls();
        }
        anyTexts();
        manyCalls();
    }

    private static int dice(int sides) {
        state = state * 6364136223846793005L + 1442695040888963407L;
        return (int) ((state >>> 33) % sides);
    }

    private static int number() {
        int kind = dice(12);
        return kind == 0 ? FAR[dice(FAR.length)] : kind < 6 ? dice(10) - 2 : kind < 8 ? move() : train();
    }

    private static int move() {
        return 1000 * dice(5) + 100 * dice(2) + 10 * (1 + dice(5)) + dice(2);
    }

    private static int train() {
        List<Integer> trains = Model.trains(1 + dice(4));
        return trains.get(dice(trains.size()));
    }

    private static int sign() {
        return dice(8) == 0 ? number() : "sqd-;12345".charAt(dice(10));
    }

    private static void anyCalls() {
        SidingOrders x = new SidingOrders();
        for (int i = 0; i < 512; i++) {
            if (dice(20) == 0) {
                x.wipe();
                Check.say(x, "d2-;s3q1");
                x.yard();
            }
            int call = dice(29);
            int a = call == 0 ? sign() : number();
            int b = number();
            String before = digest(x);
            long answer = call(x, call, a, b, dice(5) - 1);
            boolean refused = answer >= -5 && answer < 0 || answer <= SidingOrders.LOST;
            if (refused || call >= STATE_CALLS) {
                Check.due("call " + call + "(" + a + ", " + b + ") changed", digest(x).equals(before) ? 0 : 1, 0);
            }
        }
    }

    /** The first of them change the state; ways of a YARD can not look like a refusal. */
    private static long call(SidingOrders x, int call, int a, int b, int i) {
        switch (call) {
            case 0: return x.say(a);
            case 1: return dice(4) == 0 ? x.wipe() : x.told(a);
            case 2: return x.yard();
            case 3: return x.keep();
            case 4: return x.play(a, b);
            case 5: return x.move(a);
            case 6: return x.move(x.moves(Math.max(0, i)));
            case 7: return x.back();
            case 8: return x.image(a);
            case 9: return x.restore(a);
            default: return ask(x, call, a, b, i);
        }
    }

    private static long ask(SidingOrders x, int call, int a, int b, int i) {
        switch (call) {
            case 10: return x.fault();
            case 11: return x.siding(a, b);
            case 12: return x.leads(a, b);
            case 13: return x.least(a, b);
            case 14: return x.ways(a, b);
            case 15: return x.first(a, b, i);
            case 16: return x.orders(a, b);
            case 17: return x.good(a, b);
            case 18: return x.mean(a, i);
            case 19: return x.need(a, i);
            case 20: return x.unlike(a);
            case 21: return x.rest();
            case 22: return x.next();
            case 23: return x.moves(a);
            case 24: return x.stand(a);
            case 25: return x.thumb(a, i);
            case 26: return x.sorts(a, i);
            case 27: return x.draw(a, b);
            default: return x.told(a);
        }
    }

    private static String digest(SidingOrders x) {
        StringBuilder text = new StringBuilder();
        for (int i = -1; i <= 5; i++) {
            text.append(x.told(i)).append(' ').append(x.stand(i)).append(' ').append(x.moves(i)).append(' ');
            text.append(x.siding(i, 0)).append(' ').append(x.siding(i, 1)).append(' ').append(x.siding(i, 2));
        }
        text.append(x.fault()).append(' ').append(x.rest()).append(' ').append(x.next());
        return text.toString();
    }

    /** All YARDS with letters as L and digits as 1, and all that they begin with. */
    private static void anyTexts() {
        Set<String> whole = new HashSet<>();
        List<String> stages = new ArrayList<>();
        for (int sidings = 0; sidings <= 4; sidings++) {
            String text = "L1".repeat(sidings);
            if (sidings > 0) {
                stages.add(text);
            }
            for (int dash = 0; dash <= sidings; dash++) {
                stages.add(text.substring(0, 2 * dash) + "-" + text.substring(2 * dash));
            }
        }
        for (String one : stages) {
            addIfYard(whole, one);
            for (String two : stages) {
                addIfYard(whole, one + ";" + two);
                for (String three : stages) {
                    addIfYard(whole, one + ";" + two + ";" + three);
                }
            }
        }
        Set<String> begun = new HashSet<>();
        for (String text : whole) {
            for (int i = 0; i <= text.length(); i++) {
                begun.add(text.substring(0, i));
            }
        }
        for (int i = 0; i < 20000; i++) {
            anyText(whole, begun);
        }
    }

    private static void addIfYard(Set<String> whole, String text) {
        long sidings = text.chars().filter(one -> one == 'L').count();
        if (sidings >= 1 && sidings <= 4) {
            whole.add(text);
        }
    }

    private static void anyText(Set<String> whole, Set<String> begun) {
        StringBuilder text = new StringBuilder();
        StringBuilder shape = new StringBuilder();
        int length = dice(17);
        boolean wild = dice(3) == 0;
        for (int i = 0; i < length; i++) {
            boolean digit = shape.length() > 0 && shape.charAt(i - 1) == 'L';
            String from = wild && dice(3) == 0 ? "06xSQ!~:," : digit ? "12345" : "sqd--;;";
            char sign = from.charAt(dice(from.length()));
            text.append(sign);
            shape.append("sqd".indexOf(sign) >= 0 ? 'L' : "12345".indexOf(sign) >= 0 ? '1' : sign);
        }
        int want = length;
        for (int i = length; i >= 1; i--) {
            if (!begun.contains(shape.substring(0, i))) {
                want = i - 1;
            }
        }
        if (want == length && whole.contains(shape.toString())) {
            want = -6;
        }
        SidingOrders x = new SidingOrders();
        Check.say(x, text.toString());
        Check.due("fault() of " + text, x.fault(), want);
        Check.due("yard() of " + text, x.yard() > 0 ? 1 : 0, want == -6 ? 1 : 0);
        Check.due("told(0) of " + text, x.told(0), want == -6 ? 0 : length);
    }

    /** The dearest calls, as many as an object may get. */
    private static void manyCalls() {
        SidingOrders x = new SidingOrders();
        for (int i = 0; i < 16; i++) {
            Check.lay(x, i % 2 == 0 ? "d5;d5;d5d5" : "d5d5d5d5");
            for (int k = 0; k < 16; k++) {
                Check.due("need() of a long row", x.need(23451, -1), i % 2 == 0 ? 7 : 5);
                Check.due("need() of another", x.need(12345, -1), 4);
            }
        }
    }
}
