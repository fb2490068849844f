import java.util.List;

/** Promises 8 to 11. */
final class OrderEdges {
    private static final int OUTSIDE = Edges.OUTSIDE, NONE = Edges.NONE;
    /** The least and the greatest TRAIN of n wagons. */
    private static final int[] LOWEST = {1, 12, 123, 1234, 12345};
    private static final int[] HIGHEST = {1, 21, 321, 4321, 54321};

    private OrderEdges() {
    }

    private static void due(String what, long got, long want) {
        Check.due(what, got, want);
    }

    // ---- 8

    static void promise8OneToFiveWagons() {
        SidingOrders x = new SidingOrders();
        for (int n = 1; n <= 5; n++) {
            int low = LOWEST[n - 1];
            int high = HIGHEST[n - 1];
            due("least(" + low + ", " + low + ")", x.least(low, low), 2 * n);
            due("least(" + high + ", " + low + ")", x.least(high, low), 2 * n);
            due("least(" + low + ", " + high + ")", x.least(low, high), 2 * n);
        }
    }

    static void promise8OfOneObjectAgainAndAgain() {
        SidingOrders x = new SidingOrders();
        for (int i = 0; i < 3; i++) {
            for (int n = 1; n <= 5; n++) {
                due("least of " + n, x.least(LOWEST[n - 1], LOWEST[n - 1]), 2 * n);
                due("ways of " + n, x.ways(HIGHEST[n - 1], LOWEST[n - 1]), 1);
            }
            due("least(123, 312)", x.least(123, 312), NONE);
            due("least(1, 1)", x.least(1, 1), 2);
        }
    }

    static void promise8TheFewestThatCanBe() {
        SidingOrders x = Check.on("-s1");
        due("least(1, 1)", x.least(1, 1), 1);
        due("least(54321, 54321)", x.least(54321, 54321), 5);
    }

    static void promise8TheMostThatCanBe() {
        SidingOrders x = Check.on("s5;s5;s5");
        due("least(1, 1)", x.least(1, 1), 4);
        due("least(12345, 54321)", x.least(12345, 54321), 20);
    }

    static void promise8NoneItDoesNotComeOut() {
        SidingOrders x = new SidingOrders();
        due("least(231, 123)", x.least(231, 123), NONE);
        due("least(123, 312)", x.least(123, 312), NONE);
        Check.lay(x, "q5");
        due("least(21, 12)", x.least(21, 12), NONE);
    }

    static void promise8NoneBecauseOfTheLength() {
        for (int length = 1; length <= 4; length++) {
            SidingOrders x = Check.on("s" + length);
            due("least, as many as the LENGTH", x.least(LOWEST[length - 1], HIGHEST[length - 1]), 2 * length);
            due("least, one wagon more", x.least(LOWEST[length], HIGHEST[length]), NONE);
        }
    }

    static void promise8OutsideTheTrain() {
        for (int wrong : Edges.NO_TRAINS) {
            Edges.refused("least(" + wrong + ", 1)", Edges::busy, x -> x.least(wrong, 1), OUTSIDE);
            due("least(" + wrong + ", 12345)", new SidingOrders().least(wrong, 12345), OUTSIDE);
            due("least(" + wrong + ", " + wrong + ")", new SidingOrders().least(wrong, wrong), OUTSIDE);
        }
    }

    static void promise8OutsideTheOrder() {
        for (int wrong : Edges.NO_TRAINS) {
            Edges.refused("least(1, " + wrong + ")", Edges::busy, x -> x.least(1, wrong), OUTSIDE);
            due("least(12345, " + wrong + ")", new SidingOrders().least(12345, wrong), OUTSIDE);
        }
    }

    static void promise8TheOrderIsOfAsManyWagons() {
        for (int n = 1; n <= 5; n++) {
            for (int other = 1; other <= 5; other++) {
                int got = new SidingOrders().least(LOWEST[n - 1], LOWEST[other - 1]);
                due("least of " + n + " and " + other, got, n == other ? 2 * n : OUTSIDE);
            }
        }
        Edges.refusedAnywhere("least(12, 123)", x -> x.least(12, 123), OUTSIDE);
    }

    /** Each number up to six digits, and some below 0. */
    static void promise8NoOtherNumberIsATrain() {
        SidingOrders x = new SidingOrders();
        for (int number = -300; number <= 130000; number++) {
            int n = ("" + number).length();
            boolean train = number > 0 && Model.trains(Math.min(n, 6)).contains(number);
            long got = x.least(number, number);
            if (got != (train ? 2 * n : OUTSIDE)) {
                due("least(" + number + ", " + number + ")", got, train ? 2 * n : OUTSIDE);
            }
            if (number % 500 == 0) {
                x = new SidingOrders();
            }
        }
        due("least(654321, 654321)", x.least(654321, 654321), OUTSIDE);
    }

    // ---- 9

    static void promise9OneRowAlone() {
        SidingOrders x = new SidingOrders();
        for (int n = 1; n <= 5; n++) {
            due("ways, turned, " + n, x.ways(HIGHEST[n - 1], LOWEST[n - 1]), 1);
            due("ways, as it is, " + n, x.ways(LOWEST[n - 1], LOWEST[n - 1]), 1);
        }
    }

    static void promise9RowsAreToldByNumbers() {
        // Both ends of a d are MOVES of their own, even for one wagon: 2 in, 2 out.
        due("ways(1, 1) of d1", Check.on("d1").ways(1, 1), 4);
        due("ways(1, 1) of s1s1s1s1", Check.on("s1s1s1s1").ways(1, 1), 4);
        due("ways(1, 1) of d1;d1;d1", Check.on("d1;d1;d1").ways(1, 1), 64);
        due("ways(12345, 12345) of d1", Check.on("d1").ways(12345, 12345), 1024);
    }

    static void promise9OnlyRowsOfTheFewest() {
        // Through the s there are more rows, but longer ones.
        due("ways(12, 12) of -s2", Check.on("-s2").ways(12, 12), 1);
        due("ways(21, 12) of -s2s2", Check.on("-s2s2").ways(21, 12), 2);
    }

    static void promise9ZeroItDoesNotComeOut() {
        SidingOrders x = new SidingOrders();
        due("ways(231, 123)", x.ways(231, 123), 0);
        due("ways(12345, 51234)", x.ways(12345, 51234), 0);
        due("ways(12, 21) of s1", Check.on("s1").ways(12, 21), 0);
        due("ways(21, 12) of q5", Check.on("q5").ways(21, 12), 0);
    }

    static void promise9OutsideTheTrainOrTheOrder() {
        for (int wrong : Edges.NO_TRAINS) {
            Edges.refused("ways(" + wrong + ", 1)", Edges::busy, x -> x.ways(wrong, 1), OUTSIDE);
            Edges.refused("ways(1, " + wrong + ")", Edges::busy, x -> x.ways(1, wrong), OUTSIDE);
            due("ways(" + wrong + ", " + wrong + ")", new SidingOrders().ways(wrong, wrong), OUTSIDE);
        }
    }

    static void promise9TheOrderIsOfAsManyWagons() {
        Edges.refusedAnywhere("ways(12, 1)", x -> x.ways(12, 1), OUTSIDE);
        Edges.refusedAnywhere("ways(1234, 12345)", x -> x.ways(1234, 12345), OUTSIDE);
    }

    // ---- 10

    private static void first(String yard, int train, int order, int... row) {
        SidingOrders x = Check.on(yard);
        for (int i = 0; i < row.length; i++) {
            due("first(" + train + ", " + order + ", " + i + ") of " + yard, x.first(train, order, i), row[i]);
        }
        for (int i : new int[] {-1, -2, row.length, row.length + 1, 20, 21, 99, Edges.MIN, Edges.MAX}) {
            int due = i >= 0 && i < row.length ? row[i] : NONE;
            due("first(" + train + ", " + order + ", " + i + ") of " + yard, x.first(train, order, i), due);
        }
    }

    static void promise10FromZeroToTheLast() {
        first("s5", 1, 1, 10, 1050);
        first("-s1", 1, 1, 50);
        first("s5", 321, 123, 10, 10, 10, 1050, 1050, 1050);
        first("s1;q1;d1", 1, 1, 10, 1020, 2130, 3050);
    }

    static void promise10TheLongestRow() {
        first("s5;s5;s5", 12345, 54321, 10, 10, 10, 10, 10, 1020, 1020, 1020, 1020, 1020, 2030, 2030, 2030, 2030, 2030,
            3050, 3050, 3050, 3050, 3050);
    }

    static void promise10TheFirstByNumbersMoveByMove() {
        // 10, 1050, 10, 1050 is a row as well, and so is 11, ..; the second MOVE decides.
        first("d5", 12, 12, 10, 10, 1150, 1050);
        first("s1s1", 12, 21, 10, 20, 2050, 1050);
        // Not by the fewest signs: of one number of MOVES all are alike.
        first("-q1", 21, 12, 10, 50, 1150);
    }

    static void promise10ThroughAllFourSidings() {
        // 3 waits in SIDING 2 and 2 in SIDING 3; 1 passes both by the -.
        first("s1;s1;s1s1-", 321, 123, 10, 1020, 10, 2030, 1020, 10, 2040, 1020, 2050, 4050, 3050);
    }

    static void promise10LeastBeforeFirst() {
        // 10 has the lesser number, but 50 makes the row shorter.
        first("-s1", 12, 12, 50, 50);
    }

    static void promise10NoneItDoesNotComeOut() {
        first("s5", 231, 123);
        first("q5", 21, 12);
        first("s4", 12345, 54321);
    }

    static void promise10NoneBelowZero() {
        SidingOrders x = new SidingOrders();
        due("first(1, 1, -1)", x.first(1, 1, -1), NONE);
        due("first(1, 1, 0)", x.first(1, 1, 0), 10);
        due("first(1, 1, 1)", x.first(1, 1, 1), 1050);
        due("first(1, 1, 2)", x.first(1, 1, 2), NONE);
    }

    static void promise10OutsideTheTrainOrTheOrder() {
        for (int wrong : Edges.NO_TRAINS) {
            Edges.refused("first(" + wrong + ", 1, 0)", Edges::busy, x -> x.first(wrong, 1, 0), OUTSIDE);
            Edges.refused("first(1, " + wrong + ", 0)", Edges::busy, x -> x.first(1, wrong, 0), OUTSIDE);
            due("first(" + wrong + ", " + wrong + ", -1)", new SidingOrders().first(wrong, wrong, -1), OUTSIDE);
        }
    }

    static void promise10TheOrderIsOfAsManyWagons() {
        Edges.refusedAnywhere("first(12, 1, 0)", x -> x.first(12, 1, 0), OUTSIDE);
        Edges.refusedAnywhere("first(123, 1234, 0)", x -> x.first(123, 1234, 0), OUTSIDE);
        Edges.refusedAnywhere("first(12, 1, 99)", x -> x.first(12, 1, 99), OUTSIDE);
    }

    static void promise10OnlyRowsOfLeastLength() {
        // Each FIRST is a row that can be done, of LEAST MOVES, and leads to the ORDER.
        SidingOrders x = Check.on("d2-;s1q2");
        List<Integer> trains = Model.trains(3);
        for (int order : trains) {
            int least = x.play(213, order);
            for (int i = 0; i < least; i++) {
                due("MOVE " + i + " to " + order, x.move(x.first(213, order, i)), i + 1);
            }
            due("stand(5) of " + order, x.stand(5), least > 0 ? order : 0);
        }
    }

    // ---- 11

    private static void orders(String yard, int train, int... want) {
        SidingOrders x = Check.on(yard);
        due("orders(" + train + ", -1) of " + yard, x.orders(train, -1), want.length);
        for (int k = 0; k < want.length; k++) {
            due("orders(" + train + ", " + k + ") of " + yard, x.orders(train, k), want[k]);
        }
        for (int k : new int[] {-2, -3, want.length, want.length + 1, 120, 121, Edges.MIN, Edges.MAX}) {
            int due = k >= 0 && k < want.length ? want[k] : NONE;
            due("orders(" + train + ", " + k + ") of " + yard, x.orders(train, k), due);
        }
    }

    static void promise11HowManyAndTheKth() {
        orders("s5", 1, 1);
        orders("s5", 12, 12, 21);
        orders("s5", 123, 123, 132, 213, 231, 321);
        orders("s2", 123, 123, 132, 213, 231);
    }

    static void promise11ByTheirNumbersNotByTheTrain() {
        orders("s5", 321, 123, 213, 231, 312, 321);
        orders("s5", 21, 12, 21);
        orders("q5", 312, 312);
    }

    static void promise11JustOne() {
        orders("q5", 54321, 54321);
        orders("s1", 25314, 25314);
    }

    static void promise11ThatComesOutByOneMove() {
        orders("-s1", 1, 1);
        orders("-;-;-s1", 1, 1);
    }

    static void promise11All() {
        SidingOrders x = Check.on("s5s5s5s5");
        List<Integer> trains = Model.trains(5);
        due("orders(31425, -1)", x.orders(31425, -1), 120);
        for (int k = 0; k < 120; k++) {
            due("orders(31425, " + k + ")", x.orders(31425, k), trains.get(k));
        }
        due("orders(31425, 120)", x.orders(31425, 120), NONE);
    }

    static void promise11NoneBelowMinusOne() {
        SidingOrders x = new SidingOrders();
        due("orders(12, -1)", x.orders(12, -1), 2);
        due("orders(12, -2)", x.orders(12, -2), NONE);
        due("orders(12, 2)", x.orders(12, 2), NONE);
    }

    static void promise11OutsideTheTrain() {
        for (int wrong : Edges.NO_TRAINS) {
            Edges.refused("orders(" + wrong + ", -1)", Edges::busy, x -> x.orders(wrong, -1), OUTSIDE);
            due("orders(" + wrong + ", 0)", new SidingOrders().orders(wrong, 0), OUTSIDE);
        }
    }
}
