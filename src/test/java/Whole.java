import java.util.ArrayList;
import java.util.HashMap;
import java.util.List;
import java.util.Map;
import java.util.TreeMap;
import java.util.regex.Pattern;

/** The whole face once more over the model, so that long runs of calls on one object can be compared. */
final class Whole {
    private static final int UNKNOWN = -1, OUTSIDE = -2, STATE = -3, FULL = -4, NO = -5, NONE = -6;
    private static final Map<String, Model> MODELS = new HashMap<>();
    private static final Map<String, TreeMap<Integer, long[]>> OUTCOMES = new HashMap<>();
    private static final Map<String, List<Integer>> NEEDS = new HashMap<>();

    private String pad = "";
    private Kept now = new Kept();
    private final Kept[] images = new Kept[2];

    /** What an IMAGE keeps; states are never changed, so lists of them can be shared out. */
    private static final class Kept {
        String yard = "s5";
        String other = "s5";
        int order;
        List<String[]> states = new ArrayList<>();

        Kept copy() {
            Kept then = new Kept();
            then.yard = yard;
            then.other = other;
            then.order = order;
            then.states = new ArrayList<>(states);
            return then;
        }

        String[] last() {
            return states.get(states.size() - 1);
        }
    }

    private static Model model(String text) {
        return MODELS.computeIfAbsent(text, Model::new);
    }

    private Model here() {
        return model(now.yard);
    }

    private static TreeMap<Integer, long[]> outcomes(String yard, int train) {
        return OUTCOMES.computeIfAbsent(yard + " " + train, key -> model(yard).outcomes(train));
    }

    private static boolean isGood(String yard, int train) {
        return model(yard).rest(Model.begin(train), Model.sorted(train)) >= 0;
    }

    private static boolean isTrain(int number) {
        return Model.trains(("" + number).length()).contains(number);
    }

    private static boolean isPair(int train, int order) {
        return isTrain(train) && isTrain(order) && ("" + train).length() == ("" + order).length();
    }

    private boolean isMissing(int place) {
        return place >= 1 && place <= 4 && place > here().letter.size();
    }

    int say(int sign) {
        if (sign < 33 || sign > 126) {
            return OUTSIDE;
        }
        if (pad.length() == 16) {
            return FULL;
        }
        pad += (char) sign;
        return pad.length();
    }

    int wipe() {
        int signs = pad.length();
        pad = "";
        return signs;
    }

    int yard() {
        boolean whole = Pattern.matches("([sqd][1-5]|-)+(;([sqd][1-5]|-)+){0,2}", pad);
        for (String stage : pad.split(";")) {
            whole = whole && stage.indexOf('-') == stage.lastIndexOf('-');
        }
        int sidings = pad.replaceAll("[^sqd]", "").length();
        if (!whole || sidings < 1 || sidings > 4) {
            return NO;
        }
        now.yard = pad;
        pad = "";
        now.states.clear();
        return sidings;
    }

    int siding(int i, int what) {
        if (i < 0 || i >= here().letter.size()) {
            return UNKNOWN;
        }
        return what == 0 ? here().letter.get(i) : what == 1 ? here().length.get(i)
                : what == 2 ? here().stage.get(i) : OUTSIDE;
    }

    int leads(int from, int to) {
        if (isMissing(from) || isMissing(to)) {
            return UNKNOWN;
        }
        return from < 0 || from > 4 || to < 1 || to > 5 ? OUTSIDE : here().leads(from, to) ? 1 : 0;
    }

    int least(int train, int order) {
        if (!isPair(train, order)) {
            return OUTSIDE;
        }
        long[] one = outcomes(now.yard, train).get(order);
        return one == null ? NONE : (int) one[0];
    }

    long ways(int train, int order) {
        if (!isPair(train, order)) {
            return OUTSIDE;
        }
        long[] one = outcomes(now.yard, train).get(order);
        return one == null ? 0 : one[1];
    }

    int first(int train, int order, int i) {
        if (!isPair(train, order)) {
            return OUTSIDE;
        }
        List<Integer> row = here().first(train, order);
        return i >= 0 && i < row.size() ? row.get(i) : NONE;
    }

    int orders(int train, int k) {
        if (!isTrain(train)) {
            return OUTSIDE;
        }
        List<Integer> found = new ArrayList<>(outcomes(now.yard, train).keySet());
        return k == -1 ? found.size() : k >= 0 && k < found.size() ? found.get(k) : NONE;
    }

    int good(int n, int what) {
        if (n < 1 || n > 5 || what < 0 || what > 1) {
            return OUTSIDE;
        }
        int count = 0;
        for (int train : Model.trains(n)) {
            if (isGood(now.yard, train)) {
                count++;
            } else if (what == 1) {
                return train;
            }
        }
        return what == 0 ? count : NONE;
    }

    long mean(int n, int part) {
        if (n < 1 || n > 5 || part < 0 || part > 1) {
            return SidingOrders.LOST - 2;
        }
        long upper = 0;
        long lower = 0;
        for (int train : Model.trains(n)) {
            int rest = here().rest(Model.begin(train), Model.sorted(train));
            upper += Math.max(rest, 0);
            lower += rest >= 0 ? 1 : 0;
        }
        for (long d = lower; d > 1; d--) {
            if (upper % d == 0 && lower % d == 0) {
                upper /= d;
                lower /= d;
            }
        }
        return part == 0 ? upper : lower;
    }

    int need(int train, int i) {
        if (i < -1 || i >= here().letter.size()) {
            return UNKNOWN;
        }
        if (!isTrain(train)) {
            return OUTSIDE;
        }
        if (!isGood(now.yard, train)) {
            return NO;
        }
        List<Integer> sizes = NEEDS.computeIfAbsent(now.yard + " " + train, key -> here().need(train));
        return i >= 0 ? sizes.get(i) : sizes.stream().mapToInt(one -> one).sum();
    }

    int keep() {
        now.other = now.yard;
        return here().letter.size();
    }

    int unlike(int n) {
        if (n < 1 || n > 5) {
            return OUTSIDE;
        }
        for (int train : Model.trains(n)) {
            if (isGood(now.yard, train) != isGood(now.other, train)) {
                return train;
            }
        }
        return NONE;
    }

    int play(int train, int order) {
        if (!isPair(train, order)) {
            return OUTSIDE;
        }
        now.states.clear();
        now.states.add(Model.begin(train));
        now.order = order;
        return least(train, order);
    }

    int move(int move) {
        if (now.states.isEmpty()) {
            return STATE;
        }
        String[] then = here().after(now.last(), move);
        if (then == null) {
            return NO;
        }
        now.states.add(then);
        return now.states.size() - 1;
    }

    int back() {
        if (now.states.isEmpty()) {
            return STATE;
        }
        if (now.states.size() == 1) {
            return NO;
        }
        now.states.remove(now.states.size() - 1);
        return now.states.size() - 1;
    }

    int rest() {
        return now.states.isEmpty() ? STATE : here().rest(now.last(), now.order);
    }

    int next() {
        return now.states.isEmpty() ? STATE : here().next(now.last(), now.order);
    }

    int moves(int i) {
        if (now.states.isEmpty()) {
            return STATE;
        }
        List<Integer> found = here().moves(now.last());
        return i == -1 ? found.size() : i >= 0 && i < found.size() ? found.get(i) : NONE;
    }

    int stand(int place) {
        if (isMissing(place)) {
            return UNKNOWN;
        }
        if (place < 0 || place > 5) {
            return OUTSIDE;
        }
        if (now.states.isEmpty()) {
            return STATE;
        }
        return Integer.parseInt("0" + now.last()[place]);
    }

    int thumb(int train, int rule) {
        return !isTrain(train) || rule < 0 || rule > 2 ? OUTSIDE : here().thumb(train, rule);
    }

    int sorts(int n, int rule) {
        if (n < 1 || n > 5 || rule < 0 || rule > 2) {
            return OUTSIDE;
        }
        int count = 0;
        for (int train : Model.trains(n)) {
            count += here().thumb(train, rule) == n ? 1 : 0;
        }
        return count;
    }

    int draw(int seed, int n) {
        if (seed < 0 || seed > 9999 || n < 1 || n > 5) {
            return OUTSIDE;
        }
        String left = "12345".substring(0, n);
        String train = "";
        long state = seed;
        while (!left.isEmpty()) {
            state = (state * 75 + 74) % 65537;
            int at = (int) (state % left.length());
            train += left.charAt(at);
            left = left.substring(0, at) + left.substring(at + 1);
        }
        return Integer.parseInt(train);
    }

    int image(int n) {
        if (n < 0 || n > 1) {
            return OUTSIDE;
        }
        images[n] = now.copy();
        return 1;
    }

    int restore(int n) {
        if (n < 0 || n > 1) {
            return OUTSIDE;
        }
        if (images[n] == null) {
            return STATE;
        }
        now = images[n].copy();
        return 1;
    }

    int told(int what) {
        switch (what) {
            case 0: return pad.length();
            case 1: return here().letter.size();
            case 2: return here().dash.size();
            case 3: return now.states.isEmpty() ? NONE : now.states.size() - 1;
            case 4: return model(now.other).letter.size();
            default: return OUTSIDE;
        }
    }
}
