import java.util.List;

/** Long runs of calls on one object, yards changing under it, each answer against the whole model's. */
final class RunsTest {
    private static final String[] YARDS = {"s5", "s2s2", "q2q1", "d3", "-q2", "s2;q1-", "d1d2;s2", "-;d2-;q2", "s1s1s1",
        "q3s1;-d1;s2", "d2-;d2-;d2", "s3;s3;s3"};
    private static final int[] WRONG = {0, -1, -6, 6, 11, 13, 102, 123456, Integer.MAX_VALUE, Integer.MIN_VALUE};
    private static long state = 90125L;

    private RunsTest() {
    }

    static void run() {
        for (int i = 0; i < 80; i++) {
            oneRun(i);
        }
    }

    private static int dice(int sides) {
        state = state * 6364136223846793005L + 1442695040888963407L;
        return (int) ((state >>> 33) % sides);
    }

    private static int small() {
        return dice(15) == 0 ? WRONG[dice(WRONG.length)] : dice(7) - 1;
    }

    private static int size() {
        return dice(15) == 0 ? WRONG[dice(WRONG.length)] : 1 + dice(dice(12) == 0 ? 4 : 3);
    }

    private static int train(int n) {
        List<Integer> trains = Model.trains(n);
        return dice(25) == 0 ? WRONG[dice(WRONG.length)] : trains.get(dice(trains.size()));
    }

    private static void oneRun(int run) {
        SidingOrders x = new SidingOrders();
        Whole y = new Whole();
        for (int i = 0; i < 480; i++) {
            int call = dice(34);
            String what = "run " + run + ", " + i + ": ";
            if (call < 3) {
                changeYard(what, x, y);
            } else if (call < 8) {
                step(what, x, y);
            } else {
                int n = 1 + dice(dice(3) == 0 ? 4 : 3);
                one(what, x, y, call, new int[] {train(n), train(dice(30) == 0 ? 2 : n), small(), small(), size()});
            }
        }
    }

    private static void changeYard(String what, SidingOrders x, Whole y) {
        String text = YARDS[dice(YARDS.length)];
        if (dice(3) > 0) {
            Check.due(what + "wipe()", x.wipe(), y.wipe());
        }
        if (dice(9) == 0) {
            text = text.substring(0, dice(text.length()));
        }
        for (int k = 0; k < text.length(); k++) {
            Check.due(what + "say of " + text, x.say(text.charAt(k)), y.say(text.charAt(k)));
        }
        Check.due(what + "yard() of " + text, x.yard(), y.yard());
    }

    private static void step(String what, SidingOrders x, Whole y) {
        int move = dice(6) == 0 ? dice(5000) : dice(2) == 0 ? y.next() : y.moves(dice(4));
        Check.due(what + "move(" + move + ")", x.move(move), y.move(move));
        Check.due(what + "next()", x.next(), y.next());
    }

    private static void one(String what, SidingOrders x, Whole y, int call, int[] with) {
        int t = with[0];
        int o = with[1];
        int a = with[2];
        int b = with[3];
        int n = with[4];
        String say = what + "call " + call + " with " + t + " " + o + " " + a + " " + b + " " + n;
        switch (call) {
            case 8: Check.due(say + " siding", x.siding(a, b), y.siding(a, b)); break;
            case 9: Check.due(say + " leads", x.leads(a, b), y.leads(a, b)); break;
            case 10: Check.due(say + " least", x.least(t, o), y.least(t, o)); break;
            case 11: Check.due(say + " ways", x.ways(t, o), y.ways(t, o)); break;
            case 12: Check.due(say + " first", x.first(t, o, a), y.first(t, o, a)); break;
            case 13: Check.due(say + " orders", x.orders(t, a), y.orders(t, a)); break;
            case 14: Check.due(say + " good", x.good(n, a), y.good(n, a)); break;
            case 15: Check.due(say + " good, BAD", x.good(n, 1), y.good(n, 1)); break;
            case 16: Check.due(say + " mean", x.mean(n, dice(2)), y.mean(n, lastDice())); break;
            case 17: Check.due(say + " need", x.need(t, a), y.need(t, a)); break;
            case 18: Check.due(say + " need, the sum", x.need(t, -1), y.need(t, -1)); break;
            case 19: Check.due(say + " keep", x.keep(), y.keep()); break;
            case 20: Check.due(say + " unlike", x.unlike(n), y.unlike(n)); break;
            case 21: case 22: Check.due(say + " play", x.play(t, o), y.play(t, o)); break;
            case 23: Check.due(say + " back", x.back(), y.back()); break;
            case 24: Check.due(say + " rest", x.rest(), y.rest()); break;
            case 25: Check.due(say + " moves", x.moves(a), y.moves(a)); break;
            case 26: Check.due(say + " stand", x.stand(a), y.stand(a)); break;
            case 27: Check.due(say + " thumb", x.thumb(t, a), y.thumb(t, a)); break;
            case 28: Check.due(say + " sorts", x.sorts(n, a), y.sorts(n, a)); break;
            case 29: Check.due(say + " draw", x.draw(t, n), y.draw(t, n)); break;
            case 30: Check.due(say + " image", x.image(a), y.image(a)); break;
            case 31: Check.due(say + " restore", x.restore(a), y.restore(a)); break;
            case 32: Check.due(say + " told", x.told(a), y.told(a)); break;
            default: Check.due(say + " next", x.next(), y.next()); break;
        }
    }

    private static int lastDice() {
        return (int) ((state >>> 33) % 2);
    }
}
