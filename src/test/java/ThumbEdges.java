/** Promises 24 to 26. */
final class ThumbEdges {
    private static final int OUTSIDE = Edges.OUTSIDE;

    private ThumbEdges() {
    }

    private static void due(String what, long got, long want) {
        Check.due(what, got, want);
    }

    /** How many are out in order by THUMB 0, 1 and 2. */
    private static void thumb(String yard, int train, int... want) {
        for (int rule = 0; rule < want.length; rule++) {
            due("thumb(" + train + ", " + rule + ") of " + yard, Check.on(yard).thumb(train, rule), want[rule]);
        }
    }

    // ---- 24

    static void promise24OneToFiveWagons() {
        thumb("s5", 1, 1, 1, 1);
        thumb("s5", 12345, 5, 5, 5);
        thumb("s5", 54321, 5, 5, 5);
        thumb("s5;s5;s5", 12345, 5, 5, 5);
    }

    static void promise24NoneIsOut() {
        thumb("s1", 21, 0, 0, 0);
        thumb("-s1", 231, 0, 0, 0);
    }

    static void promise24SomeAreOut() {
        thumb("s5", 231, 1, 1, 1);
        thumb("s5", 13425, 2, 2, 2);
    }

    static void promise24TheWantedOneGoesOutFirst() {
        // If the ENTRY came first, 3 and 2 would go in above 1.
        thumb("s5", 132, 3, 3, 3);
        thumb("-s5", 12345, 5, 5, 5);
        thumb("-s1", 213, 3, 3, 3);
    }

    static void promise24TheWantedOneGoesOutFromWhereItIs() {
        // 2 lies at the FAR end, 3 and 1 in front of it; of an s only 1 can go out, of a q none.
        thumb("d5", 231, 3, 3, 3);
        thumb("s5", 231, 1, 1, 1);
        thumb("q5", 231, 0, 0, 0);
        thumb("q5", 1234, 4, 4, 4);
    }

    static void promise24TheEntryBeforeASiding() {
        // 1 goes in above 2 and then on first; else 2 would take the s.
        thumb("s2;s1", 21, 2, 2, 2);
        thumb("s2;s1", 12, 0, 0, 0);
    }

    static void promise24ThumbZeroTheFirstWithRoom() {
        thumb("s1s2", 321, 3);
        thumb("s2s2", 2431, 1);
        thumb("s1s1s1s1", 4321, 4);
    }

    static void promise24ThumbOneAllHigher() {
        due("3 is not put onto 2", Check.on("s2s2").thumb(231, 1), 3);
        due("by THUMB 0 it is", Check.on("s2s2").thumb(231, 0), 1);
        due("4 is not put onto 2, 3 onto 4", Check.on("s3s3").thumb(2431, 1), 4);
    }

    static void promise24ThumbOneAllNotJustTheNearest() {
        // 5 stands onto 2, for want of a better SIDING: 3 is lower than 5, but not than 2.
        due("3 onto 4", Check.on("s3q2").thumb(24531, 1), 1);
        due("3 onto 4, and 2 out of the q", Check.on("-q3s2").thumb(24531, 1), 5);
    }

    static void promise24ThumbOneAllNotJustTheFarthestNorOne() {
        // 3 stands onto 5: 4 is lower than 5, but not than 3, and goes onto 2.
        due("4 onto 2", Check.on("s2s3").thumb(25341, 1), 1);
    }

    static void promise24ThumbOneAnEmptyOneIsAllHigher() {
        due("2 into the first, 3 into the second", Check.on("s5s5").thumb(2314, 1), 4);
    }

    static void promise24ThumbOneNoSuchOne() {
        // 4 is higher than 2 and 3: the first with room is taken all the same, and then 1 stands above.
        due("4 onto 2", Check.on("s3s1").thumb(2341, 1), 1);
        // SIDING 0 is full: the first with room is SIDING 1.
        due("4 onto 3", Check.on("s1s3").thumb(2341, 1), 2);
    }

    static void promise24ThumbTwoTheFewest() {
        due("3 beside 2", Check.on("s2s2").thumb(231, 2), 3);
        due("3 onto 2", Check.on("s3s3").thumb(2431, 2), 1);
    }

    static void promise24ThumbTwoTheFirstSuch() {
        due("1 in the first", Check.on("s1s1;s1").thumb(12, 2), 2);
        due("2 in the first", Check.on("s1s1;s1").thumb(21, 2), 0);
    }

    static void promise24ThumbTwoFullOnesAreLeftAside() {
        due("SIDING 0 is full", Check.on("s1s2").thumb(321, 2), 3);
    }

    static void promise24AtTheNearEndAlways() {
        // At the FAR end 1 would stand behind 2, and 2 would go on first.
        thumb("d2;s1", 21, 2, 2, 2);
        thumb("d2;s1", 12, 0, 0, 0);
    }

    static void promise24OnToALaterStageByTheLeastNumber() {
        thumb("s1s1;s1", 12, 2, 2, 2);
        thumb("s1s1;s1", 21, 0, 0, 0);
        // 2 goes on to the next STAGE, not to the one behind it, where it would bar 1.
        thumb("s1;s1-;s1", 21, 2, 2, 2);
    }

    static void promise24FromTheEntryByAStraightOn() {
        thumb("-;s1", 1, 1, 1, 1);
        thumb("s1-;s1", 21, 2, 2, 2);
    }

    static void promise24OutsideTheTrain() {
        for (int wrong : Edges.NO_TRAINS) {
            Edges.refused("thumb(" + wrong + ", 0)", Edges::busy, x -> x.thumb(wrong, 0), OUTSIDE);
            due("thumb(" + wrong + ", 2)", new SidingOrders().thumb(wrong, 2), OUTSIDE);
        }
    }

    static void promise24OutsideTheRule() {
        for (int rule : new int[] {-1, 3, 4, Edges.MIN, Edges.MAX}) {
            Edges.refusedAnywhere("thumb(21, " + rule + ")", x -> x.thumb(21, rule), OUTSIDE);
        }
    }

    static void promise24ItOnlyAsks() {
        SidingOrders x = Edges.busy();
        for (int rule = 0; rule < 3; rule++) {
            x.thumb(54321, rule);
            x.sorts(4, rule);
        }
        Edges.same("after thumb() and sorts()", x, Edges.busy());
    }

    // ---- 25

    static void promise25OneToFiveWagons() {
        int[] catalan = {1, 2, 5, 14, 42};
        for (int n = 1; n <= 5; n++) {
            for (int rule = 0; rule < 3; rule++) {
                due("sorts(" + n + ", " + rule + ") of s5", new SidingOrders().sorts(n, rule), catalan[n - 1]);
                due("sorts(" + n + ", " + rule + ") of q5", Check.on("q5").sorts(n, rule), 1);
            }
        }
    }

    static void promise25JustOneIsSorted() {
        // All go into SIDING 0 first, and then on from its NEAR end, one by one: the last one must be 1.
        for (int rule = 0; rule < 3; rule++) {
            due("sorts(2, " + rule + ") of s2;s1", Check.on("s2;s1").sorts(2, rule), 1);
            due("sorts(3, " + rule + ") of s3;s1", Check.on("s3;s1").sorts(3, rule), 1);
            due("sorts(1, " + rule + ") of s5;s5;s5", Check.on("s5;s5;s5").sorts(1, rule), 1);
        }
    }

    static void promise25AsManyAsAreOutInOrderWhole() {
        for (String yard : new String[] {"s3s3", "d2-;s1q2", "q2q2;s2"}) {
            SidingOrders x = Check.on(yard);
            for (int rule = 0; rule < 3; rule++) {
                int whole = 0;
                for (int train : Model.trains(4)) {
                    whole += x.thumb(train, rule) == 4 ? 1 : 0;
                }
                due("sorts(4, " + rule + ") of " + yard, x.sorts(4, rule), whole);
            }
        }
    }

    static void promise25OutsideTheNumberOfWagons() {
        for (int n : Edges.NO_SIZES) {
            Edges.refusedAnywhere("sorts(" + n + ", 0)", x -> x.sorts(n, 0), OUTSIDE);
            Edges.refusedAnywhere("sorts(" + n + ", 2)", x -> x.sorts(n, 2), OUTSIDE);
        }
    }

    static void promise25OutsideTheRule() {
        for (int rule : new int[] {-1, 3, 4, Edges.MIN, Edges.MAX}) {
            Edges.refusedAnywhere("sorts(1, " + rule + ")", x -> x.sorts(1, rule), OUTSIDE);
            Edges.refusedAnywhere("sorts(5, " + rule + ")", x -> x.sorts(5, rule), OUTSIDE);
        }
    }

    // ---- 26

    static void promise26OneToFiveWagons() {
        // 74, 5624, 28652, ..: left over by 5, 4, 3, .. wagons that are left.
        int[] want = {1, 12, 312, 3412, 51423};
        for (int n = 1; n <= 5; n++) {
            due("draw(0, " + n + ")", new SidingOrders().draw(0, n), want[n - 1]);
        }
    }

    static void promise26TheLeastAndTheGreatestSeed() {
        due("draw(0, 5)", new SidingOrders().draw(0, 5), 51423);
        due("draw(9999, 1)", new SidingOrders().draw(9999, 1), 1);
        // 29092 (2 by 5), 19253 (1 by 4), 2235 (0 by 3), 36625 (1 by 2).
        due("draw(9999, 5)", new SidingOrders().draw(9999, 5), 32154);
    }

    static void promise26EachSeedMakesATrain() {
        SidingOrders x = new SidingOrders();
        for (int seed = 0; seed <= 9999; seed++) {
            int train = x.draw(seed, 1 + seed % 5);
            if (!Model.trains(1 + seed % 5).contains(train)) {
                due("draw(" + seed + ", " + (1 + seed % 5) + ")", train, 0);
            }
            if (seed % 500 == 0) {
                x = new SidingOrders();
            }
        }
        due("draw(9999, 5)", x.draw(9999, 5), 32154);
    }

    static void promise26TheSameSeedTheSameTrain() {
        SidingOrders x = new SidingOrders();
        due("draw(77, 5)", x.draw(77, 5), 54123);
        x.draw(78, 5);
        due("draw(77, 5) again", x.draw(77, 5), 54123);
        due("draw(77, 3)", x.draw(77, 3), 321);
    }

    static void promise26OutsideTheSeed() {
        for (int seed : new int[] {-1, -2, 10000, 10001, 65537, Edges.MIN, Edges.MAX}) {
            Edges.refusedAnywhere("draw(" + seed + ", 3)", x -> x.draw(seed, 3), OUTSIDE);
        }
    }

    static void promise26OutsideTheNumberOfWagons() {
        for (int n : Edges.NO_SIZES) {
            Edges.refusedAnywhere("draw(0, " + n + ")", x -> x.draw(0, n), OUTSIDE);
            Edges.refusedAnywhere("draw(9999, " + n + ")", x -> x.draw(9999, n), OUTSIDE);
        }
    }

    static void promise26ItOnlyAsks() {
        SidingOrders x = Edges.busy();
        x.draw(5, 5);
        Edges.same("after draw()", x, Edges.busy());
    }
}
