import java.util.ArrayList;
import java.util.HashMap;
import java.util.List;
import java.util.Map;
import java.util.TreeMap;

/**
 * The document once more, in its plainest form and apart from the program: wagons as characters, places as texts.
 * A state is six texts: the ENTRY, four SIDINGS from the NEAR end on, the EXIT.
 */
final class Model {
    final List<Character> letter = new ArrayList<>();
    final List<Integer> length = new ArrayList<>();
    final List<Integer> stage = new ArrayList<>();
    final List<Boolean> dash = new ArrayList<>();

    Model(String text) {
        String[] parts = text.split(";");
        for (int s = 0; s < parts.length; s++) {
            dash.add(parts[s].contains("-"));
            String sidings = parts[s].replace("-", "");
            for (int i = 0; i < sidings.length(); i += 2) {
                letter.add(sidings.charAt(i));
                length.add(sidings.charAt(i + 1) - '0');
                stage.add(s);
            }
        }
    }

    Model(Model wide, List<Integer> lengths) {
        letter.addAll(wide.letter);
        length.addAll(lengths);
        stage.addAll(wide.stage);
        dash.addAll(wide.dash);
    }

    boolean leads(int from, int to) {
        int at = from == 0 ? 0 : stage.get(from - 1) + 1;
        for (;;) {
            if (at == dash.size()) {
                return to == 5;
            }
            if (to != 5 && stage.get(to - 1) == at) {
                return true;
            }
            if (!dash.get(at)) {
                return false;
            }
            at++;
        }
    }

    /** What a MOVE makes of a state; null: it can not be. */
    String[] after(String[] state, int move) {
        if (move < 0 || move > 4999) {
            return null;
        }
        int from = move / 1000;
        int fromEnd = move / 100 % 10;
        int to = move / 10 % 10;
        int toEnd = move % 10;
        if (from > letter.size() || to == 0 || to > 5 || to < 5 && to > letter.size() || fromEnd > 1 || toEnd > 1) {
            return null;
        }
        if (!leads(from, to) || state[from].isEmpty()) {
            return null;
        }
        char out = from == 0 ? 's' : letter.get(from - 1);
        char in = to == 5 ? 's' : letter.get(to - 1);
        if (out == 's' && fromEnd == 1 || out == 'q' && fromEnd == 0 || in != 'd' && toEnd == 1) {
            return null;
        }
        if (to != 5 && state[to].length() >= length.get(to - 1)) {
            return null;
        }
        String[] then = state.clone();
        String row = state[from];
        String wagon = fromEnd == 0 ? row.substring(0, 1) : row.substring(row.length() - 1);
        then[from] = fromEnd == 0 ? row.substring(1) : row.substring(0, row.length() - 1);
        then[to] = to == 5 || toEnd == 1 ? then[to] + wagon : wagon + then[to];
        return then;
    }

    List<Integer> moves(String[] state) {
        List<Integer> found = new ArrayList<>();
        for (int from = 0; from < 5; from++) {
            for (int to = 1; to < 6; to++) {
                for (int ends = 0; ends < 4; ends++) {
                    int move = 1000 * from + 100 * (ends / 2) + 10 * to + ends % 2;
                    if (after(state, move) != null) {
                        found.add(move);
                    }
                }
            }
        }
        found.sort(null);
        return found;
    }

    static String[] begin(int train) {
        return new String[] {"" + train, "", "", "", "", ""};
    }

    /** ORDERS that come out, by their numbers: LEAST and WAYS. */
    TreeMap<Integer, long[]> outcomes(int train) {
        int n = ("" + train).length();
        TreeMap<Integer, long[]> found = new TreeMap<>();
        Map<String, Long> level = new HashMap<>();
        level.put(String.join("|", begin(train)), 1L);
        Map<String, Integer> seen = new HashMap<>();
        for (int step = 0; !level.isEmpty(); step++) {
            Map<String, Long> above = new HashMap<>();
            for (Map.Entry<String, Long> one : level.entrySet()) {
                seen.put(one.getKey(), step);
            }
            for (Map.Entry<String, Long> one : level.entrySet()) {
                String[] state = one.getKey().split("\\|", -1);
                if (state[5].length() == n) {
                    found.put(Integer.parseInt(state[5]), new long[] {step, one.getValue()});
                }
                for (int move : moves(state)) {
                    String then = String.join("|", after(state, move));
                    if (!seen.containsKey(then)) {
                        above.merge(then, one.getValue(), Long::sum);
                    }
                }
            }
            level = above;
        }
        return found;
    }

    private final Map<String, Integer> rests = new HashMap<>();

    /** REST; -6: STUCK. */
    int rest(String[] state, int order) {
        String wanted = "" + order;
        if (!wanted.startsWith(state[5])) {
            return -6;
        }
        if (wanted.equals(state[5])) {
            return 0;
        }
        String key = order + ":" + String.join("|", state);
        Integer known = rests.get(key);
        if (known != null) {
            return known;
        }
        int best = -6;
        for (int move : moves(state)) {
            int then = rest(after(state, move), order);
            if (then >= 0 && (best < 0 || then + 1 < best)) {
                best = then + 1;
            }
        }
        rests.put(key, best);
        return best;
    }

    /** NEXT; -6. */
    int next(String[] state, int order) {
        int rest = rest(state, order);
        if (rest > 0) {
            for (int move : moves(state)) {
                if (rest(after(state, move), order) == rest - 1) {
                    return move;
                }
            }
        }
        return -6;
    }

    List<Integer> first(int train, int order) {
        List<Integer> row = new ArrayList<>();
        String[] state = begin(train);
        for (int move = next(state, order); move >= 0; move = next(state, order)) {
            row.add(move);
            state = after(state, move);
        }
        return row;
    }

    static int sorted(int train) {
        return 12345 / (int) Math.pow(10, 5 - ("" + train).length());
    }

    /** LENGTHS; null: the TRAIN can not be SORTED. */
    List<Integer> need(int train) {
        int[] size = {1, 1, 1, 1};
        List<Integer> best = null;
        int bestSum = 99;
        for (size[0] = 1; size[0] <= lengthOr1(0); size[0]++) {
            for (size[1] = 1; size[1] <= lengthOr1(1); size[1]++) {
                for (size[2] = 1; size[2] <= lengthOr1(2); size[2]++) {
                    for (size[3] = 1; size[3] <= lengthOr1(3); size[3]++) {
                        List<Integer> tried = new ArrayList<>();
                        int sum = 0;
                        for (int i = 0; i < length.size(); i++) {
                            tried.add(size[i]);
                            sum += size[i];
                        }
                        if (sum < bestSum && new Model(this, tried).rest(begin(train), sorted(train)) >= 0) {
                            best = tried;
                            bestSum = sum;
                        }
                    }
                }
            }
        }
        return best;
    }

    private int lengthOr1(int i) {
        return i < length.size() ? length.get(i) : 1;
    }

    int thumb(int train, int rule) {
        String[] state = begin(train);
        for (;;) {
            int move = thumbMove(state, rule);
            if (move < 0) {
                return state[5].length();
            }
            state = after(state, move);
        }
    }

    private int thumbMove(String[] state, int rule) {
        List<Integer> all = moves(state);
        String wanted = "" + (state[5].length() + 1);
        for (int move : all) {
            if (move / 10 % 10 == 5 && after(state, move)[5].endsWith(wanted)) {
                return move;
            }
        }
        int chosen = -1;
        for (int i = 1; i <= letter.size() && !state[0].isEmpty(); i++) {
            if (!all.contains(10 * i)) {
                continue;
            }
            char wagon = state[0].charAt(0);
            if (chosen < 0) {
                chosen = i;
            } else if (rule == 1 && !allHigher(state[chosen], wagon) && allHigher(state[i], wagon)) {
                chosen = i;
            } else if (rule == 2 && state[i].length() < state[chosen].length()) {
                chosen = i;
            }
        }
        if (chosen > 0) {
            return 10 * chosen;
        }
        for (int move : all) {
            if (move >= 1000 && move / 10 % 10 != 5) {
                return move;
            }
        }
        return -1;
    }

    private static boolean allHigher(String row, char wagon) {
        return row.chars().allMatch(one -> one > wagon);
    }

    private static final Map<Integer, List<Integer>> TRAINS = new HashMap<>();

    /** All TRAINS of n, by their numbers. */
    static List<Integer> trains(int n) {
        return TRAINS.computeIfAbsent(n, Model::findTrains);
    }

    private static List<Integer> findTrains(int n) {
        List<Integer> found = new ArrayList<>();
        for (int number = 1; number <= 54321; number++) {
            String text = "" + number;
            boolean whole = text.length() == n;
            for (int wagon = 1; wagon <= n; wagon++) {
                whole = whole && text.indexOf('0' + wagon) >= 0;
            }
            if (whole) {
                found.add(number);
            }
        }
        return found;
    }
}
