/** The Terms: the order of refusals, fractions, and what sections 1 to 4 tell of numbers and of MOVES. */
final class TermsEdges {
    private static final int UNKNOWN = Edges.UNKNOWN, OUTSIDE = Edges.OUTSIDE, STATE = Edges.STATE, NO = Edges.NO,
        NONE = Edges.NONE;

    private TermsEdges() {
    }

    private static void due(String what, long got, long want) {
        Check.due(what, got, want);
    }

    // ---- "Calls that are refused answer, the first of these that fits"

    static void termsTheConstants() {
        due("UNKNOWN", SidingOrders.UNKNOWN, -1);
        due("OUTSIDE", SidingOrders.OUTSIDE, -2);
        due("STATE", SidingOrders.STATE, -3);
        due("FULL", SidingOrders.FULL, -4);
        due("NO", SidingOrders.NO, -5);
        due("NONE", SidingOrders.NONE, -6);
        due("LOST", SidingOrders.LOST, -1000000000000000000L);
    }

    static void termsUnknownBeforeOutside() {
        Edges.refusedAnywhere("siding(4, 3)", x -> x.siding(4, 3), UNKNOWN);
        Edges.refusedAnywhere("siding(-1, -1)", x -> x.siding(-1, -1), UNKNOWN);
        Edges.refusedAnywhere("leads(4, 0)", x -> x.leads(4, 0), UNKNOWN);
        Edges.refusedAnywhere("leads(4, 6)", x -> x.leads(4, 6), UNKNOWN);
        Edges.refusedAnywhere("leads(-1, 4)", x -> x.leads(-1, 4), UNKNOWN);
        Edges.refusedAnywhere("leads(5, 4)", x -> x.leads(5, 4), UNKNOWN);
        Edges.refusedAnywhere("need(11, 4)", x -> x.need(11, 4), UNKNOWN);
        Edges.refusedAnywhere("need(0, -2)", x -> x.need(0, -2), UNKNOWN);
    }

    static void termsUnknownBeforeState() {
        Edges.refused("stand(4) of a new object", SidingOrders::new, x -> x.stand(4), UNKNOWN);
        Edges.refused("stand(4) without a PLAY", Edges::resting, x -> x.stand(4), UNKNOWN);
    }

    static void termsUnknownBeforeNo() {
        Edges.refused("need(231, 1) in s5", SidingOrders::new, x -> x.need(231, 1), UNKNOWN);
        Edges.refused("need(231, -2) in s5", SidingOrders::new, x -> x.need(231, -2), UNKNOWN);
    }

    static void termsOutsideBeforeState() {
        Edges.refused("stand(6) of a new object", SidingOrders::new, x -> x.stand(6), OUTSIDE);
        Edges.refused("stand(-1) without a PLAY", Edges::resting, x -> x.stand(-1), OUTSIDE);
        Edges.refused("restore(2), no IMAGE at all", SidingOrders::new, x -> x.restore(2), OUTSIDE);
        Edges.refused("restore(-1), no IMAGE at all", SidingOrders::new, x -> x.restore(-1), OUTSIDE);
    }

    static void termsOutsideBeforeNo() {
        Edges.refusedAnywhere("need(11, 0)", x -> x.need(11, 0), OUTSIDE);
        Edges.refusedAnywhere("need(2, -1)", x -> x.need(2, -1), OUTSIDE);
    }

    static void termsOutsideBeforeFull() {
        Edges.Made full = () -> Edges.padded("-s1;-q2;-d3s4abc");
        Edges.refused("say(32), the PAD full", full, x -> x.say(32), OUTSIDE);
        Edges.refused("say(127), the PAD full", full, x -> x.say(127), OUTSIDE);
    }

    static void termsStateBeforeNo() {
        Edges.refused("move(0) of a new object", SidingOrders::new, x -> x.move(0), STATE);
        Edges.refused("move(-1) without a PLAY", Edges::resting, x -> x.move(-1), STATE);
        Edges.refused("back() of a new object", SidingOrders::new, x -> x.back(), STATE);
        Edges.refused("back() without a PLAY", Edges::resting, x -> x.back(), STATE);
    }

    static void termsARefusalBeforeNone() {
        Edges.refusedAnywhere("first(11, 11, -1)", x -> x.first(11, 11, -1), OUTSIDE);
        Edges.refusedAnywhere("orders(11, -2)", x -> x.orders(11, -2), OUTSIDE);
        Edges.refused("moves(-2) of a new object", SidingOrders::new, x -> x.moves(-2), STATE);
        Edges.refused("moves(99) without a PLAY", Edges::resting, x -> x.moves(99), STATE);
        Edges.refused("next() without a PLAY", Edges::resting, x -> x.next(), STATE);
        Edges.refused("rest() without a PLAY", Edges::resting, x -> x.rest(), STATE);
    }

    // ---- fractions

    static void termsFractionsArePartZeroAndOne() {
        for (int part : new int[] {-1, 2, -2, 3, Edges.MIN, Edges.MAX}) {
            Edges.refusedAnywhere("mean(3, " + part + ")", x -> x.mean(3, part), SidingOrders.LOST - 2);
        }
        SidingOrders x = Check.on("-s1");
        due("mean(2, 0)", x.mean(2, 0), 5);
        due("mean(2, 1)", x.mean(2, 1), 2);
    }

    static void termsFractionsAreInLowestTerms() {
        // 12 by 2 MOVES each way round: 8 by 2 is 4 by 1.
        SidingOrders x = new SidingOrders();
        due("mean(2, 0) of s5", x.mean(2, 0), 4);
        due("mean(2, 1) of s5", x.mean(2, 1), 1);
        // 123: 3; 132, 213, 312: 4 each; 231: 2 and 3 wait, 5; 321 likewise, 5: 25 by 6.
        Check.lay(x, "-s1s1");
        due("mean(3, 0) of -s1s1", x.mean(3, 0), 25);
        due("mean(3, 1) of -s1s1", x.mean(3, 1), 6);
    }

    static void termsTheFractionIsNeverOfNothing() {
        // Wagon by wagon 1, 2, .. n comes out of any YARD: at least one TRAIN is GOOD.
        for (String yard : new String[] {"s1", "q1", "d1", "s1;s1;s1", "-;-;q1", "-d1"}) {
            SidingOrders x = Check.on(yard);
            for (int n = 1; n <= 5; n++) {
                int sorted = 12345 / power(5 - n);
                due("mean(" + n + ", 1) of " + yard, x.mean(n, 1) >= 1 ? 1 : 0, 1);
                due("least(" + sorted + ", " + sorted + ") of " + yard, x.least(sorted, sorted) >= n ? 1 : 0, 1);
            }
        }
    }

    private static int power(int exponent) {
        int product = 1;
        for (int i = 0; i < exponent; i++) {
            product *= 10;
        }
        return product;
    }

    // ---- 1: SIDINGS

    static void termsNoMoreWagonsThanTheLength() {
        for (char letter : new char[] {'s', 'q', 'd'}) {
            for (int length = 1; length <= 4; length++) {
                fill(letter, length);
            }
        }
    }

    private static void fill(char letter, int length) {
        String yard = "" + letter + length;
        SidingOrders x = Check.on(yard);
        x.play(12345, 12345);
        for (int i = 1; i <= length; i++) {
            due(yard + ", wagon " + i + " goes in", x.move(10), i);
        }
        due(yard + " is full", x.move(10), NO);
        due(yard + " is full at the FAR end", x.move(11), NO);
        due(yard + " is full, so it can only be left", x.moves(0) / 1000, 1);
        due(yard + " still holds its LENGTH", ("" + x.stand(1)).length(), length);
        due(yard + " may be left", x.move(letter == 'q' ? 1150 : 1050), length + 1);
        due(yard + " has room again", x.move(10), length + 2);
        due(yard + " is full again", x.move(10), NO);
    }

    static void termsLengthFiveHoldsAllFive() {
        for (String yard : new String[] {"s5", "q5", "d5"}) {
            SidingOrders x = Edges.playing(yard, 12345, 12345, 10, 10, 10, 10, 10);
            due("stand(1) of " + yard, x.stand(1), 54321);
            due("stand(0) of " + yard, x.stand(0), 0);
        }
    }

    static void termsASidingBehindASidingIsFullToo() {
        SidingOrders x = Edges.playing("s2;d1", 123, 123, 10, 10, 1020);
        due("move(1020), full", x.move(1020), NO);
        due("move(1021), full at the FAR end", x.move(1021), NO);
        due("move(2150)", x.move(2150), 4);
        due("move(1021), room again", x.move(1021), 5);
    }

    static void termsTheExitIsNeverFull() {
        SidingOrders x = Edges.playing("-s1", 54321, 54321, 50, 50, 50, 50, 50);
        due("stand(5)", x.stand(5), 54321);
    }

    static void termsADeadEndIsNearAlone() {
        SidingOrders x = Edges.playing("s5", 123, 123, 10, 10);
        listed(x, 10, 1050);
        due("stand(1)", x.stand(1), 21);
        x.move(1050);
        due("out came the last one in", x.stand(5), 2);
    }

    static void termsAThroughTrackIsInNearOutFar() {
        SidingOrders x = Edges.playing("q5", 123, 123, 10, 10);
        listed(x, 10, 1150);
        due("stand(1)", x.stand(1), 21);
        x.move(1150);
        due("out came the first one in", x.stand(5), 1);
    }

    static void termsATwoEndedOneIsInAndOutAtEither() {
        SidingOrders x = Edges.playing("d5", 1234, 1234, 10, 10, 11);
        listed(x, 10, 11, 1050, 1150);
        due("stand(1)", x.stand(1), 213);
        x.move(1150);
        due("out at the FAR end", x.stand(5), 3);
        x.move(1050);
        due("out at the NEAR end", x.stand(5), 32);
    }

    static void termsOfADWithOneWagonBothEndsCount() {
        SidingOrders x = Edges.playing("d1;d1", 1, 1, 10);
        listed(x, 1020, 1021, 1120, 1121);
        x.move(1121);
        listed(x, 2050, 2150);
        due("ways(1, 1)", x.ways(1, 1), 2 * 4 * 2);
    }

    static void termsOfAnSOrQWithOneWagonOneEndCounts() {
        listed(Edges.playing("s1;q1", 1, 1, 10), 1020);
        listed(Edges.playing("s1;q1", 1, 1, 10, 1020), 2150);
        due("ways(1, 1)", Check.on("s1;q1").ways(1, 1), 1);
    }

    private static void listed(SidingOrders x, int... moves) {
        due("moves(-1)", x.moves(-1), moves.length);
        for (int i = 0; i < moves.length; i++) {
            due("moves(" + i + ")", x.moves(i), moves[i]);
        }
        due("moves(" + moves.length + ")", x.moves(moves.length), NONE);
    }

    // ---- 1: MOVES from STAGE to STAGE

    static void termsFromTheEntryToTheFirstStageAlone() {
        listed(Edges.playing("s1q1;d1;s1", 12, 12), 10, 20);
    }

    static void termsFromASidingToTheStageBehindAlone() {
        listed(Edges.playing("s1s1;q1;d1", 1, 1, 10), 1030);
        listed(Edges.playing("s1s1;q1;d1", 1, 1, 10, 1030), 3140, 3141);
        listed(Edges.playing("s1s1;q1;d1", 1, 1, 10, 1030, 3140), 4050, 4150);
    }

    static void termsByAStraightOnToTheStageBehindThat() {
        listed(Edges.playing("-s1;s1;s1", 1, 1), 10, 20);
        listed(Edges.playing("s1;-s1;s1", 1, 1, 10), 1020, 1030);
        listed(Edges.playing("s1;s1;-s1", 1, 1, 10, 1020), 2030, 2050);
    }

    static void termsByStraightOnesAndSoOn() {
        listed(Edges.playing("-s1;-s1;-s1", 1, 1), 10, 20, 30, 50);
        listed(Edges.playing("-;-;s1", 1, 1), 10);
        listed(Edges.playing("s1;-;-", 1, 1, 10), 1050);
        listed(Edges.playing("s1-;-;s1", 1, 1), 10, 20);
    }

    static void termsAStraightOnOfItsOwnStageHelpsNoSiding() {
        // The - stands beside SIDING 0, not behind it.
        listed(Edges.playing("s1-;s1;s1", 1, 1, 10), 1020);
    }

    static void termsAMoveIsOfTheFirstWagonAtTheEntry() {
        SidingOrders x = Edges.playing("-s5", 312, 123, 10);
        due("stand(1)", x.stand(1), 3);
        due("stand(0)", x.stand(0), 12);
        x.move(50);
        due("stand(5)", x.stand(5), 1);
    }

    // ---- 2 to 4

    static void termsNoneIsNoRefusal() {
        // -6 is not among the refusals: THE PLAY begins.
        SidingOrders x = new SidingOrders();
        due("play(231, 123)", x.play(231, 123), NONE);
        due("told(3)", x.told(3), 0);
        due("stand(0)", x.stand(0), 231);
    }

    static void termsLengthsOfANeedAreAtLeastOneAndNoMoreThanTheyAre() {
        SidingOrders x = Check.on("s5s5s5s5");
        for (int i = 0; i < 4; i++) {
            due("need(12345, " + i + ")", x.need(12345, i), 1);
        }
        due("need(12345, -1)", x.need(12345, -1), 4);
        // 1 and 2 would do as well, but SIDING 1 is too short.
        Check.lay(x, "s2s1");
        due("need(321, 0) of s2s1", x.need(321, 0), 2);
        due("need(321, 1) of s2s1", x.need(321, 1), 1);
        Check.lay(x, "s1s2");
        due("need(321, 0) of s1s2", x.need(321, 0), 1);
        due("need(321, 1) of s1s2", x.need(321, 1), 2);
    }

    static void termsStuckIsNotForEver() {
        SidingOrders x = Edges.playing("s5", 12, 12, 10, 10);
        due("rest(), STUCK", x.rest(), NONE);
        x.back();
        due("rest() after back()", x.rest(), 3);
    }
}
