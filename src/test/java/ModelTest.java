import java.util.List;
import java.util.Map;
import java.util.TreeMap;

/** The program against the model, over yards that a seed draws and over some that are hard. */
final class ModelTest {
    private static long state = 20261118L;

    private ModelTest() {
    }

    private static int dice(int sides) {
        state = state * 6364136223846793005L + 1442695040888963407L;
        return (int) ((state >>> 33) % sides);
    }

    private static String drawYard() {
        for (;;) {
            StringBuilder text = new StringBuilder();
            int sidings = 0;
            int stages = 1 + dice(3);
            for (int s = 0; s < stages; s++) {
                int parts = 1 + dice(3);
                boolean dash = false;
                int before = text.length();
                for (int p = 0; p < parts; p++) {
                    if (!dash && dice(4) == 0) {
                        dash = true;
                        text.append('-');
                    } else if (sidings < 4) {
                        sidings++;
                        text.append("sqd".charAt(dice(3))).append(1 + dice(5));
                    }
                }
                if (text.length() == before) {
                    text.append('-');
                }
                text.append(s < stages - 1 ? ";" : "");
            }
            if (sidings > 0) {
                return text.toString();
            }
        }
    }

    static void run() {
        for (int i = 0; i < 150; i++) {
            String text = drawYard();
            compareYard(text, 1 + dice(4));
            comparePlay(text, 1 + dice(4));
        }
        for (String text : new String[] {"s5", "q5", "d5", "s5s5", "d3;s2", "-q5;s1", "q2-;s3;-d2", "s1s1s1s1"}) {
            compareYard(text, 5);
            comparePlay(text, 5);
        }
        for (String text : new String[] {"d5d5d5d5", "d5d5-;d5-;d5-", "s2;q3;d2s5"}) {
            compareOutcomes(text, 41532);
        }
        for (int i = 0; i < 12; i++) {
            compareUnlike(drawYard(), drawYard(), 2 + dice(3));
        }
    }

    private static void compareYard(String text, int n) {
        Model model = new Model(text);
        SidingOrders x = Check.on(text);
        compareLayout(text, model, x);
        List<Integer> trains = Model.trains(n);
        int train = trains.get(dice(trains.size()));
        compareOutcomes(text, train);
        int order = trains.get(dice(trains.size()));
        List<Integer> row = model.first(train, order);
        for (int i = -1; i <= row.size(); i++) {
            long want = i >= 0 && i < row.size() ? row.get(i) : -6;
            Check.due(text + " first(" + train + ", " + order + ", " + i + ")", x.first(train, order, i), want);
        }
        List<Integer> need = model.need(train);
        int sum = 0;
        for (int i = 0; i < model.letter.size(); i++) {
            sum += need == null ? 0 : need.get(i);
            Check.due(text + " need(" + train + ", " + i + ")", x.need(train, i), need == null ? -5 : need.get(i));
        }
        Check.due(text + " need(" + train + ", -1)", x.need(train, -1), need == null ? -5 : sum);
        compareSorted(text, model, x, n);
    }

    private static void compareLayout(String text, Model model, SidingOrders x) {
        Check.due(text + " told(1)", x.told(1), model.letter.size());
        Check.due(text + " told(2)", x.told(2), model.dash.size());
        for (int i = 0; i < model.letter.size(); i++) {
            Check.due(text + " siding(" + i + ", 0)", x.siding(i, 0), model.letter.get(i));
            Check.due(text + " siding(" + i + ", 1)", x.siding(i, 1), model.length.get(i));
            Check.due(text + " siding(" + i + ", 2)", x.siding(i, 2), model.stage.get(i));
        }
        for (int from = 0; from <= 4; from++) {
            for (int to = 1; to <= 5; to++) {
                boolean there = from <= model.letter.size() && (to == 5 || to <= model.letter.size());
                long want = !there ? -1 : model.leads(from, to) ? 1 : 0;
                Check.due(text + " leads(" + from + ", " + to + ")", x.leads(from, to), want);
            }
        }
    }

    private static void compareOutcomes(String text, int train) {
        TreeMap<Integer, long[]> outcomes = new Model(text).outcomes(train);
        SidingOrders x = Check.on(text);
        String what = text + " of " + train;
        Check.due(what + " orders -1", x.orders(train, -1), outcomes.size());
        Check.due(what + " orders at the end", x.orders(train, outcomes.size()), -6);
        int k = 0;
        for (int order : outcomes.keySet()) {
            Check.due(what + " orders " + k, x.orders(train, k), order);
            k++;
        }
        for (int order : Model.trains(("" + train).length())) {
            long[] one = outcomes.get(order);
            Check.due(what + " least " + order, x.least(train, order), one == null ? -6 : one[0]);
            Check.due(what + " ways " + order, x.ways(train, order), one == null ? 0 : one[1]);
        }
    }

    private static void compareSorted(String text, Model model, SidingOrders x, int n) {
        int good = 0;
        int bad = -6;
        long sum = 0;
        int[] sorts = new int[3];
        for (int train : Model.trains(n)) {
            int least = model.rest(Model.begin(train), Model.sorted(train));
            if (least >= 0) {
                good++;
                sum += least;
            } else if (bad < 0) {
                bad = train;
            }
            for (int rule = 0; rule < 3; rule++) {
                int out = model.thumb(train, rule);
                sorts[rule] += out == n ? 1 : 0;
                Check.due(text + " thumb(" + train + ", " + rule + ")", x.thumb(train, rule), out);
            }
        }
        Check.due(text + " good(" + n + ", 0)", x.good(n, 0), good);
        Check.due(text + " good(" + n + ", 1)", x.good(n, 1), bad);
        long lower = x.mean(n, 1);
        Check.due(text + " mean(" + n + ")", x.mean(n, 0) * good, sum * lower);
        for (int d = 2; d <= 120; d++) {
            Check.due(text + " mean(" + n + ") over " + d, lower % d == 0 && x.mean(n, 0) % d == 0 ? 1 : 0, 0);
        }
        for (int rule = 0; rule < 3; rule++) {
            Check.due(text + " sorts(" + n + ", " + rule + ")", x.sorts(n, rule), sorts[rule]);
        }
    }

    private static void comparePlay(String text, int n) {
        Model model = new Model(text);
        SidingOrders x = Check.on(text);
        List<Integer> trains = Model.trains(n);
        int train = trains.get(dice(trains.size()));
        int order = dice(2) == 0 ? Model.sorted(train) : trains.get(dice(trains.size()));
        String what = text + " play(" + train + ", " + order + ")";
        java.util.ArrayList<String[]> states = new java.util.ArrayList<>();
        states.add(Model.begin(train));
        Check.due(what, x.play(train, order), model.rest(states.get(0), order));
        for (int step = 0; step < 60; step++) {
            String[] now = states.get(states.size() - 1);
            String here = what + " at " + String.join("|", now);
            compareStand(here, model, x, now, order);
            List<Integer> moves = model.moves(now);
            int kind = dice(8);
            if (kind == 0) {
                int move = dice(5000);
                String[] then = model.after(now, move);
                Check.due(here + " move(" + move + ")", x.move(move), then == null ? -5 : states.size());
                if (then != null) {
                    states.add(then);
                }
            } else if (kind < 3 || moves.isEmpty()) {
                Check.due(here + " back()", x.back(), states.size() == 1 ? -5 : states.size() - 2);
                if (states.size() > 1) {
                    states.remove(states.size() - 1);
                }
            } else {
                int next = model.next(now, order);
                int move = next > 0 && kind < 6 ? next : moves.get(dice(moves.size()));
                Check.due(here + " move(" + move + ")", x.move(move), states.size());
                states.add(model.after(now, move));
            }
            Check.due(here + " told(3)", x.told(3), states.size() - 1);
        }
    }

    private static void compareStand(String here, Model model, SidingOrders x, String[] now, int order) {
        Check.due(here + " rest()", x.rest(), model.rest(now, order));
        Check.due(here + " next()", x.next(), model.next(now, order));
        List<Integer> moves = model.moves(now);
        Check.due(here + " moves(-1)", x.moves(-1), moves.size());
        for (int i = 0; i <= moves.size(); i++) {
            Check.due(here + " moves(" + i + ")", x.moves(i), i < moves.size() ? moves.get(i) : -6);
        }
        for (int place = 0; place <= 5; place++) {
            boolean there = place == 5 || place <= model.letter.size();
            long want = !there ? -1 : now[place].isEmpty() ? 0 : Long.parseLong(now[place]);
            Check.due(here + " stand(" + place + ")", x.stand(place), want);
        }
    }

    private static void compareUnlike(String one, String two, int n) {
        SidingOrders x = Check.on(one);
        x.keep();
        Check.lay(x, two);
        Model a = new Model(one);
        Model b = new Model(two);
        int want = -6;
        for (int train : Model.trains(n)) {
            boolean here = a.rest(Model.begin(train), Model.sorted(train)) >= 0;
            boolean there = b.rest(Model.begin(train), Model.sorted(train)) >= 0;
            if (here != there) {
                want = train;
                break;
            }
        }
        Check.due(one + " and " + two + " unlike(" + n + ")", x.unlike(n), want);
    }
}
