import java.lang.reflect.Array;
import java.lang.reflect.Field;
import java.lang.reflect.Modifier;
import java.util.ArrayList;
import java.util.IdentityHashMap;
import java.util.List;

/** "An object is used for at most 512 calls", and all calls of one run live in one room. */
final class CallsEdges {
    private static final int CALLS = 512;
    /** So many objects as this would still find room: 600,000 objects and arrays, 7.3 million elements. */
    private static final int MOST_OBJECTS = 120;
    private static final int MOST_ELEMENTS = 60000;

    private CallsEdges() {
    }

    private static void due(String what, long got, long want) {
        Check.due(what, got, want);
    }

    /** Each method of the face once, as calls that are not refused in a PLAY. */
    private static long call(SidingOrders x, int method) {
        switch (method) {
            case 0: return x.say('q');
            case 1: return x.wipe();
            case 2: return x.fault();
            case 3: return x.yard();
            case 4: return x.siding(1, 1);
            case 5: return x.leads(1, 5);
            case 6: return x.least(21, 12);
            case 7: return x.ways(321, 123);
            case 8: return x.first(321, 123, 1);
            case 9: return x.orders(4321, 3);
            case 10: return x.good(4, 0);
            case 11: return x.mean(3, 0);
            case 12: return x.need(321, 1);
            case 13: return x.keep();
            case 14: return x.unlike(3);
            case 15: return x.play(312, 123);
            case 16: return x.move(20);
            case 17: return x.back();
            case 18: return x.rest();
            case 19: return x.next();
            case 20: return x.moves(0);
            case 21: return x.stand(1);
            case 22: return x.thumb(2413, 1);
            case 23: return x.sorts(4, 2);
            case 24: return x.draw(77, 5);
            case 25: return x.image(1);
            case 26: return x.restore(0);
            default: return x.told(3);
        }
    }

    private static final int METHODS = 28;
    private static final int BEGUN = 16;
    /** Methods that change nothing. */
    private static final int[] ASKING = {2, 4, 5, 6, 7, 8, 9, 10, 11, 12, 14, 18, 19, 20, 21, 22, 23, 24, 27};

    /** With BEGUN calls. */
    private static SidingOrders begun() {
        SidingOrders x = new SidingOrders();
        for (char sign : "d2;s3-".toCharArray()) {
            x.say(sign);
        }
        x.yard();
        x.play(3142, 1234);
        x.move(10);
        x.image(0);
        x.move(10);
        x.keep();
        for (char sign : "s1s2".toCharArray()) {
            x.say(sign);
        }
        return x;
    }

    static void termsTheLastOf512CallsAnswersAsAnEarlyOne() {
        for (int method = 0; method < METHODS; method++) {
            SidingOrders x = begun();
            for (int i = BEGUN; i < CALLS - 1; i++) {
                call(x, ASKING[i % ASKING.length]);
            }
            due("call " + method + " as the last of 512", call(x, method), call(begun(), method));
        }
    }

    static void terms512CallsOfTheSame() {
        for (int method : ASKING) {
            SidingOrders x = begun();
            long first = call(x, method);
            for (int i = BEGUN + 1; i < CALLS; i++) {
                long again = call(x, method);
                if (again != first) {
                    due("call " + method + ", time " + i, again, first);
                }
            }
            due("call " + method, call(begun(), method), first);
        }
    }

    static void terms512NeedsOfManyTrains() {
        SidingOrders x = Check.on("d5-;d5-;d5d5");
        List<Integer> trains = Model.trains(4);
        int[] sums = new int[trains.size()];
        for (int i = 0; i < 500; i++) {
            int at = i % trains.size();
            int sum = x.need(trains.get(at), -1);
            if (i < trains.size()) {
                sums[at] = sum;
            }
            due("need(" + trains.get(at) + ", -1), time " + i, sum, sums[at]);
        }
    }

    static void terms512PlaysAndMoves() {
        SidingOrders x = new SidingOrders();
        for (int i = 0; i < CALLS / 8; i++) {
            due("play(21, 12)", x.play(21, 12), 4);
            for (int k = 0; k < 4; k++) {
                due("move", x.move(k < 2 ? 10 : 1050), k + 1);
            }
            due("rest()", x.rest(), 0);
            due("stand(5)", x.stand(5), 12);
            due("back()", x.back(), 3);
        }
    }

    static void terms512MovesAndBacks() {
        SidingOrders x = new SidingOrders();
        x.play(1, 1);
        for (int i = 1; i < CALLS - 1; i += 2) {
            due("move(10)", x.move(10), 1);
            due("back()", x.back(), 0);
        }
        due("told(3)", x.told(3), 0);
    }

    static void terms512YardsAndSigns() {
        SidingOrders x = new SidingOrders();
        for (int i = 0; i < CALLS / 4; i++) {
            int length = 1 + i % 5;
            due("say", x.say("sqd".charAt(i % 3)), 1);
            due("say", x.say('0' + length), 2);
            due("yard()", x.yard(), 1);
            due("siding(0, 1)", x.siding(0, 1), length);
        }
    }

    static void terms512ImagesAndRestores() {
        SidingOrders x = Edges.playing("s5", 21, 12, 10);
        for (int i = 0; i < 250; i++) {
            due("image(" + i % 2 + ")", x.image(i % 2), 1);
            due("restore(" + i % 2 + ")", x.restore(i % 2), 1);
        }
        due("stand(1)", x.stand(1), 2);
        due("back()", x.back(), 0);
    }

    static void termsThereIsRoomForManyObjects() throws IllegalAccessException {
        SidingOrders x = begun();
        int[] before = size(x);
        due("objects and arrays: " + before[0], before[0] <= MOST_OBJECTS ? 1 : 0, 1);
        due("fields and elements: " + before[1], before[1] <= MOST_ELEMENTS ? 1 : 0, 1);
        for (int i = BEGUN; i < CALLS; i++) {
            call(x, i % METHODS);
        }
        int[] after = size(x);
        due("objects and arrays after 512 calls", after[0], before[0]);
        due("fields and elements after 512 calls", after[1], before[1]);
    }

    /** Objects and arrays that hang on one, and their fields and elements. */
    private static int[] size(Object root) throws IllegalAccessException {
        IdentityHashMap<Object, Boolean> seen = new IdentityHashMap<>();
        List<Object> open = new ArrayList<>();
        seen.put(root, true);
        open.add(root);
        int elements = 0;
        for (int i = 0; i < open.size(); i++) {
            Object one = open.get(i);
            if (one.getClass().isArray()) {
                elements += Array.getLength(one);
                continue;
            }
            for (Field field : one.getClass().getDeclaredFields()) {
                if (Modifier.isStatic(field.getModifiers())) {
                    continue;
                }
                elements++;
                field.setAccessible(true);
                Object value = field.get(one);
                if (!field.getType().isPrimitive() && value != null && seen.put(value, true) == null) {
                    open.add(value);
                }
            }
        }
        return new int[] {open.size(), elements};
    }
}
