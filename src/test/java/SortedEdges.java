/** Promises 12 to 16. */
final class SortedEdges {
    private static final int UNKNOWN = Edges.UNKNOWN, OUTSIDE = Edges.OUTSIDE, NO = Edges.NO, NONE = Edges.NONE;
    private static final int[] FACTORIALS = {1, 2, 6, 24, 120};

    private SortedEdges() {
    }

    private static void due(String what, long got, long want) {
        Check.due(what, got, want);
    }

    // ---- 12

    static void promise12GoodOfOneToFive() {
        int[] catalan = {1, 2, 5, 14, 42};
        for (int n = 1; n <= 5; n++) {
            due("good(" + n + ", 0) of s5", new SidingOrders().good(n, 0), catalan[n - 1]);
            due("good(" + n + ", 0) of q5", Check.on("q5").good(n, 0), 1);
            due("good(" + n + ", 0) of s5s5s5s5", Check.on("s5s5s5s5").good(n, 0), FACTORIALS[n - 1]);
        }
    }

    static void promise12BadTheFirstByItsNumber() {
        SidingOrders x = new SidingOrders();
        due("good(3, 1) of s5", x.good(3, 1), 231);
        due("good(4, 1) of s5", x.good(4, 1), 1342);
        due("good(5, 1) of s5", x.good(5, 1), 12453);
        Check.lay(x, "q5");
        due("good(2, 1) of q5", x.good(2, 1), 21);
        due("good(5, 1) of q5", x.good(5, 1), 12354);
        Check.lay(x, "s4");
        due("good(5, 0) of s4", x.good(5, 0), 41);
        Check.lay(x, "s2");
        due("good(2, 1) of s2", x.good(2, 1), NONE);
        Check.lay(x, "s1s1s1s1");
        due("good(5, 1) of s1s1s1s1", x.good(5, 1), 23451);
        due("good(4, 1) of s1s1s1s1", x.good(4, 1), NONE);
    }

    static void promise12NoneAllAreGood() {
        SidingOrders x = new SidingOrders();
        due("good(1, 1)", x.good(1, 1), NONE);
        due("good(2, 1)", x.good(2, 1), NONE);
        for (int n = 1; n <= 5; n++) {
            due("good(" + n + ", 1) of s5s5s5s5", Check.on("s5s5s5s5").good(n, 1), NONE);
        }
    }

    static void promise12SortedByOneMove() {
        SidingOrders x = Check.on("-s1");
        due("good(1, 0) of -s1", x.good(1, 0), 1);
        due("good(1, 1) of -s1", x.good(1, 1), NONE);
    }

    static void promise12OutsideTheNumberOfWagons() {
        for (int n : Edges.NO_SIZES) {
            Edges.refusedAnywhere("good(" + n + ", 0)", x -> x.good(n, 0), OUTSIDE);
            Edges.refusedAnywhere("good(" + n + ", 1)", x -> x.good(n, 1), OUTSIDE);
        }
    }

    static void promise12OutsideWhat() {
        for (int what : new int[] {-1, 2, 3, Edges.MIN, Edges.MAX}) {
            Edges.refusedAnywhere("good(1, " + what + ")", x -> x.good(1, what), OUTSIDE);
            Edges.refusedAnywhere("good(5, " + what + ")", x -> x.good(5, what), OUTSIDE);
        }
    }

    // ---- 13

    private static void mean(String yard, int n, long upper, long lower) {
        SidingOrders x = Check.on(yard);
        due("mean(" + n + ", 0) of " + yard, x.mean(n, 0), upper);
        due("mean(" + n + ", 1) of " + yard, x.mean(n, 1), lower);
    }

    static void promise13OverAllGoodOnesAlone() {
        for (int n = 1; n <= 5; n++) {
            mean("s5", n, 2 * n, 1);
            mean("q5", n, 2 * n, 1);
            mean("s5;s5;s5", n, 4 * n, 1);
        }
        // 123: 3; 132, 213, 312: 4 each; the others can not.
        mean("-s1", 3, 15, 4);
    }

    static void promise13TheLeastAndTheGreatest() {
        mean("-s1", 1, 1, 1);
        mean("s1;q1;d1", 5, 20, 1);
    }

    static void promise13InLowestTerms() {
        mean("-s1", 2, 5, 2);
        mean("-s1s1", 3, 25, 6);
        mean("s5s5", 5, 10, 1);
    }

    static void promise13OutsideIsLostLessTwo() {
        for (int n : Edges.NO_SIZES) {
            Edges.refusedAnywhere("mean(" + n + ", 0)", x -> x.mean(n, 0), -1000000000000000002L);
            Edges.refusedAnywhere("mean(" + n + ", 1)", x -> x.mean(n, 1), -1000000000000000002L);
        }
        for (int part : new int[] {-1, 2, Edges.MIN, Edges.MAX}) {
            Edges.refusedAnywhere("mean(1, " + part + ")", x -> x.mean(1, part), -1000000000000000002L);
            Edges.refusedAnywhere("mean(5, " + part + ")", x -> x.mean(5, part), -1000000000000000002L);
        }
    }

    // ---- 14

    private static void need(String yard, int train, int sum, int... lengths) {
        SidingOrders x = Check.on(yard);
        due("need(" + train + ", -1) of " + yard, x.need(train, -1), sum);
        for (int i = 0; i < lengths.length; i++) {
            due("need(" + train + ", " + i + ") of " + yard, x.need(train, i), lengths[i]);
        }
        due("need(" + train + ", " + lengths.length + ") of " + yard, x.need(train, lengths.length), UNKNOWN);
    }

    static void promise14TheLeastAndTheMost() {
        need("s1", 1, 1, 1);
        need("s5", 12345, 1, 1);
        need("s5", 54321, 5, 5);
        need("s5;s5;s5", 54321, 7, 1, 1, 5);
        need("s5;d5;q5s5", 54321, 7, 1, 1, 1, 4);
    }

    static void promise14TheLeastSum() {
        // All wait for wagon 1, which goes through a SIDING too, unless there is a - for it.
        need("s5", 321, 3, 3);
        need("s5s5", 321, 3, 1, 2);
        need("s5s5s5", 4321, 4, 1, 1, 2);
        need("s3s3", 231, 3, 1, 2);
        need("-s3s3", 231, 2, 1, 1);
        need("-s3s3", 4231, 3, 1, 2);
    }

    static void promise14OfSeveralTheLeastOfSidingZeroThenOne() {
        need("s5s5", 54321, 5, 1, 4);
        need("s5s5s5s5", 54321, 5, 1, 1, 1, 2);
        need("s5s5s5s5", 12345, 4, 1, 1, 1, 1);
    }

    static void promise14NoMoreThanItIs() {
        need("s2s1", 321, 3, 2, 1);
        need("s5s2", 54321, 5, 3, 2);
        need("s4s1", 54321, 5, 4, 1);
        need("s3s3s1s1", 54321, 5, 1, 2, 1, 1);
    }

    static void promise14SortedAsItIsButNotWithLess() {
        need("s3", 321, 3, 3);
        need("s2s2", 4321, 4, 2, 2);
        need("s1;s1", 12, 2, 1, 1);
    }

    static void promise14AsNarrowerYardsTell() {
        narrower("s", ";s", "", 5, 5);
        narrower("q", ";s", "", 5, 5);
        narrower("d", ";s", "", 5, 4);
        narrower("s", "s", "", 5, 5);
        narrower("-q", "s", "", 3, 5);
        narrower("s", ";-d", ";q1", 4, 5);
    }

    /** Each pair of LENGTHS as a YARD of its own; the sum counts before the LENGTH of SIDING 0. */
    private static void narrower(String head, String middle, String tail, int most, int mostBehind) {
        SidingOrders x = Check.on(head + most + middle + mostBehind + tail);
        SidingOrders[] yards = new SidingOrders[100];
        for (int size = 1; size <= most; size++) {
            for (int behind = 1; behind <= mostBehind; behind++) {
                yards[10 * (size + behind) - 10 + size] = Check.on(head + size + middle + behind + tail);
            }
        }
        for (int train : Model.trains(5)) {
            int found = 0;
            while (found < 100 && (yards[found] == null || yards[found].least(train, 12345) == NONE)) {
                found++;
            }
            String what = "need(" + train + ") of " + head + most + middle + mostBehind + tail;
            due(what + ", SIDING 0", x.need(train, 0), found == 100 ? NO : found % 10);
            due(what + ", SIDING 1", x.need(train, 1), found == 100 ? NO : found / 10 + 1 - found % 10);
        }
    }

    static void promise14UnknownSidings() {
        String[] yards = {"s3", "s3q1", "s3q1d1", "s3q1d1s1"};
        for (int count = 1; count <= 4; count++) {
            String yard = yards[count - 1];
            int last = count - 1;
            due("need(12, last) of " + yard, Check.on(yard).need(12, last), 1);
            for (int i : new int[] {-2, -3, count, count + 1, 4, 5, Edges.MIN, Edges.MAX}) {
                Edges.refused("need(12, " + i + ") of " + yard, () -> Check.on(yard), x -> x.need(12, i), UNKNOWN);
            }
        }
        Edges.refusedAnywhere("need(12, 4)", x -> x.need(12, 4), UNKNOWN);
    }

    static void promise14OutsideTheTrain() {
        for (int wrong : Edges.NO_TRAINS) {
            Edges.refused("need(" + wrong + ", 0)", Edges::busy, x -> x.need(wrong, 0), OUTSIDE);
            due("need(" + wrong + ", -1)", new SidingOrders().need(wrong, -1), OUTSIDE);
        }
    }

    static void promise14NoItCanNotBeSorted() {
        Edges.refused("need(231, 0) of s5", SidingOrders::new, x -> x.need(231, 0), NO);
        Edges.refused("need(231, -1) of s5", SidingOrders::new, x -> x.need(231, -1), NO);
        Edges.refused("need(21, 1) of q5;s1", () -> Check.on("q5;s1"), x -> x.need(21, 1), NO);
        Edges.refused("need(321, 0) of s2", () -> Check.on("s2"), x -> x.need(321, 0), NO);
    }

    static void promise14AfterARefusedOneStillRight() {
        SidingOrders x = new SidingOrders();
        due("need(321, 0)", x.need(321, 0), 3);
        due("need(231, 0)", x.need(231, 0), NO);
        due("need(321, -1)", x.need(321, -1), 3);
        due("need(0, 0)", x.need(0, 0), OUTSIDE);
        due("need(21, 0)", x.need(21, 0), 2);
        due("need(21, 1)", x.need(21, 1), UNKNOWN);
        due("need(321, 0) again", x.need(321, 0), 3);
    }

    static void promise14LengthsAreOnlyTried() {
        SidingOrders x = Check.on("s5s5");
        due("need(321, 0)", x.need(321, 0), 1);
        due("siding(0, 1)", x.siding(0, 1), 5);
        // In s1s2 the second wagon could not go into SIDING 0.
        due("first(321, 123, 1)", x.first(321, 123, 1), 10);
        due("first(321, 123, 2)", x.first(321, 123, 2), 10);
        x.play(321, 123);
        x.move(10);
        due("need(321, 1)", x.need(321, 1), 2);
        due("need(4321, 1)", x.need(4321, 1), 3);
        due("need(321, 1) again", x.need(321, 1), 2);
        due("next()", x.next(), 10);
        due("move(10)", x.move(10), 2);
    }

    static void promise14RestStaysAsItIs() {
        // NEED is 1 and 2: 2 into SIDING 0, 4 and 3 into SIDING 1. The other way round 3 needs room above 4.
        SidingOrders x = Edges.playing("-s5s5", 2431, 1234, 20, 10);
        due("need(2431, 0)", x.need(2431, 0), 1);
        due("need(2431, 1)", x.need(2431, 1), 2);
        due("rest()", x.rest(), 5);
        due("next()", x.next(), 10);
    }

    static void promise14ItOnlyAsks() {
        SidingOrders x = Edges.busy();
        due("need(123, -1)", x.need(123, -1), 3);
        Edges.same("after need()", x, Edges.busy());
    }

    // ---- 15

    static void promise15HowManySidings() {
        String[] yards = {"s1", "s1;q2", "-d1q1;s1", "s1q2d3s4"};
        for (int count = 1; count <= 4; count++) {
            SidingOrders x = Check.on(yards[count - 1]);
            due("told(4) before", x.told(4), 1);
            due("keep() of " + yards[count - 1], x.keep(), count);
            due("told(4)", x.told(4), count);
        }
    }

    static void promise15OfANewObject() {
        SidingOrders x = new SidingOrders();
        due("keep()", x.keep(), 1);
        Edges.same("after keep() of s5", x, new SidingOrders());
    }

    static void promise15TheOtherAloneChanges() {
        SidingOrders x = Edges.busy();
        due("keep()", x.keep(), 3);
        due("told(3)", x.told(3), 3);
        due("told(1)", x.told(1), 3);
        due("told(0)", x.told(0), 4);
        due("stand(1)", x.stand(1), 31);
        for (int n = 1; n <= 5; n++) {
            due("unlike(" + n + ")", x.unlike(n), NONE);
        }
    }

    static void promise15TheOtherStaysWhenTheYardChanges() {
        SidingOrders x = Check.on("s2");
        x.keep();
        Check.lay(x, "s5");
        due("unlike(3)", x.unlike(3), 321);
        Check.lay(x, "q5");
        due("unlike(2)", x.unlike(2), 21);
        due("told(4)", x.told(4), 1);
        due("keep() again", x.keep(), 1);
        due("unlike(2) again", x.unlike(2), NONE);
    }

    static void promise15ItKeepsWhatIsKnownOfTheYardApart() {
        SidingOrders x = new SidingOrders();
        due("good(3, 0) of s5", x.good(3, 0), 5);
        x.keep();
        Check.lay(x, "q5");
        due("good(3, 0) of q5", x.good(3, 0), 1);
        x.keep();
        Check.lay(x, "s5");
        due("good(3, 0) of s5 again", x.good(3, 0), 5);
        due("unlike(3)", x.unlike(3), 132);
    }

    static void promise15WhatWasFoundInTheOldOtherIsForgotten() {
        SidingOrders x = new SidingOrders();
        due("unlike(3) of s5 and s5", x.unlike(3), NONE);
        Check.lay(x, "q5");
        x.keep();
        due("unlike(3) of q5 and q5", x.unlike(3), NONE);
        Check.lay(x, "s5");
        due("unlike(3) of s5 and q5", x.unlike(3), 132);
        Check.lay(x, "s2");
        x.keep();
        Check.lay(x, "s5");
        due("unlike(3) of s5 and s2", x.unlike(3), 321);
    }

    // ---- 16

    private static void unlike(String yard, String other, int n, int want) {
        SidingOrders x = Check.on(other);
        x.keep();
        Check.lay(x, yard);
        due("unlike(" + n + ") of " + yard + " and " + other, x.unlike(n), want);
    }

    static void promise16TheFirstThatIsGoodInJustOne() {
        unlike("s5", "q5", 2, 21);
        unlike("q5", "s5", 2, 21);
        unlike("s5", "q5", 5, 12354);
        unlike("s4", "s5", 5, 54321);
        unlike("s5", "s4", 5, 54321);
        // 321 is GOOD in s3 alone, 231 in q2s1 alone: the first of both.
        unlike("s3", "q2s1", 3, 231);
        unlike("q2s1", "s3", 3, 231);
    }

    static void promise16NoneTheyAreAlike() {
        for (int n = 1; n <= 5; n++) {
            unlike("d3;s2", "d3;s2", n, NONE);
            unlike("s1s1s1", "q1d1s1", n, NONE);
            unlike("s1", "q5", n, NONE);
        }
        unlike("s2", "s5", 2, NONE);
        unlike("s4", "s5", 4, NONE);
        unlike("q5", "s5", 1, NONE);
        unlike("-s1", "s5", 1, NONE);
        unlike("s5", "-s1", 1, NONE);
    }

    static void promise16AlikeForOneNumberOfWagonsAlone() {
        unlike("s2", "s3", 2, NONE);
        unlike("s2", "s3", 3, 321);
        unlike("s3", "s4", 3, NONE);
        unlike("s3", "s4", 4, 4321);
    }

    static void promise16AlikeThoughTheMovesDiffer() {
        unlike("s5;q5", "s5", 4, NONE);
        unlike("-;s5", "s5", 5, NONE);
    }

    static void promise16OutsideTheNumberOfWagons() {
        for (int n : Edges.NO_SIZES) {
            Edges.refusedAnywhere("unlike(" + n + ")", x -> x.unlike(n), OUTSIDE);
        }
    }
}
