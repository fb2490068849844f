import java.util.Arrays;

/** Promises 17 to 23. */
final class PlayEdges {
    private static final int UNKNOWN = Edges.UNKNOWN, OUTSIDE = Edges.OUTSIDE, STATE = Edges.STATE, NO = Edges.NO,
        NONE = Edges.NONE;
    private static final int[] LOWEST = {1, 12, 123, 1234, 12345};
    private static final int[] HIGHEST = {1, 21, 321, 4321, 54321};
    private static final int[] FAR = {-2, -3, 40, 1000, Edges.MIN, Edges.MAX};

    private PlayEdges() {
    }

    private static void due(String what, long got, long want) {
        Check.due(what, got, want);
    }

    private static void standsAt(String what, SidingOrders x, int... want) {
        for (int place = 0; place < want.length; place++) {
            due(what + ", stand(" + place + ")", x.stand(place), want[place]);
        }
    }

    // ---- 17

    static void promise17BeginsAndAnswersLeast() {
        SidingOrders x = Check.on("s5s5s5s5");
        for (int n = 1; n <= 5; n++) {
            int train = HIGHEST[n - 1];
            due("play(" + train + ")", x.play(train, LOWEST[n - 1]), 2 * n);
            due("told(3)", x.told(3), 0);
            standsAt("play(" + train + ")", x, train, 0, 0, 0, 0, 0);
            due("back()", x.back(), NO);
        }
    }

    static void promise17TheLeastAndTheGreatestLeast() {
        due("play(1, 1) of -s1", Check.on("-s1").play(1, 1), 1);
        due("play(12345, 54321) of s5;s5;s5", Check.on("s5;s5;s5").play(12345, 54321), 20);
    }

    static void promise17NoneAndThePlayBegins() {
        SidingOrders x = new SidingOrders();
        due("play(231, 123)", x.play(231, 123), NONE);
        due("told(3)", x.told(3), 0);
        standsAt("play(231, 123)", x, 231, 0);
        due("rest()", x.rest(), NONE);
        due("next()", x.next(), NONE);
        due("moves(-1)", x.moves(-1), 1);
        due("moves(0)", x.moves(0), 10);
        due("move(10)", x.move(10), 1);
        standsAt("after a MOVE", x, 31, 2);
        due("rest() after a MOVE", x.rest(), NONE);
        due("back()", x.back(), 0);
        due("back() again", x.back(), NO);
    }

    static void promise17NoneEndsTheOldPlay() {
        SidingOrders x = Edges.playing("s5", 321, 123, 10, 10);
        due("rest() before", x.rest(), 4);
        due("play(231, 123)", x.play(231, 123), NONE);
        due("told(3)", x.told(3), 0);
        standsAt("play(231, 123)", x, 231, 0);
        due("rest()", x.rest(), NONE);
        due("back()", x.back(), NO);
    }

    static void promise17NoneIsKeptInAnImage() {
        SidingOrders x = new SidingOrders();
        x.play(231, 123);
        x.image(0);
        Check.lay(x, "q1");
        due("restore(0)", x.restore(0), 1);
        due("told(3)", x.told(3), 0);
        due("rest()", x.rest(), NONE);
        standsAt("after restore(0)", x, 231, 0);
    }

    static void promise17OutsideTheTrain() {
        for (int wrong : Edges.NO_TRAINS) {
            Edges.refused("play(" + wrong + ", 1)", Edges::busy, x -> x.play(wrong, 1), OUTSIDE);
            due("play(" + wrong + ", " + wrong + ")", new SidingOrders().play(wrong, wrong), OUTSIDE);
        }
    }

    static void promise17OutsideTheOrder() {
        for (int wrong : Edges.NO_TRAINS) {
            Edges.refused("play(1, " + wrong + ")", Edges::busy, x -> x.play(1, wrong), OUTSIDE);
            due("play(12345, " + wrong + ")", new SidingOrders().play(12345, wrong), OUTSIDE);
        }
    }

    static void promise17TheOrderIsOfAsManyWagons() {
        Edges.refusedAnywhere("play(12, 123)", x -> x.play(12, 123), OUTSIDE);
        Edges.refusedAnywhere("play(12345, 1234)", x -> x.play(12345, 1234), OUTSIDE);
    }

    static void promise17OutsideBeginsNothing() {
        SidingOrders x = new SidingOrders();
        due("play(12, 13)", x.play(12, 13), OUTSIDE);
        due("told(3)", x.told(3), NONE);
        due("rest()", x.rest(), STATE);
        x.play(21, 12);
        x.move(10);
        due("play(0, 0)", x.play(0, 0), OUTSIDE);
        due("told(3)", x.told(3), 1);
        due("rest()", x.rest(), 3);
    }

    static void promise17TheSameOnceMoreBeginsAnew() {
        SidingOrders x = Edges.playing("s5", 21, 12, 10, 10);
        due("play(21, 12)", x.play(21, 12), 4);
        due("told(3)", x.told(3), 0);
        standsAt("anew", x, 21, 0);
        due("back()", x.back(), NO);
    }

    static void promise17TheYardAndTheSignsStay() {
        SidingOrders x = Edges.busy();
        x.play(12, 12);
        due("told(0)", x.told(0), 4);
        due("told(1)", x.told(1), 3);
        due("told(4)", x.told(4), 2);
        due("restore(1)", x.restore(1), 1);
        due("told(3)", x.told(3), 1);
    }

    // ---- 18

    static void promise18HowManyAre() {
        SidingOrders x = Check.on("s5;s5;s5");
        x.play(12345, 54321);
        int[] kinds = {10, 1020, 2030, 3050};
        for (int i = 0; i < 20; i++) {
            due("move(" + kinds[i / 5] + ")", x.move(kinds[i / 5]), i + 1);
            due("told(3)", x.told(3), i + 1);
        }
        due("stand(5)", x.stand(5), 54321);
        due("a MOVE more", x.move(3050), NO);
        due("told(3)", x.told(3), 20);
    }

    static void promise18StateThereIsNoPlay() {
        for (int move : new int[] {10, 0, -1, 50, 1050, Edges.MIN, Edges.MAX}) {
            Edges.refused("move(" + move + ") of a new object", SidingOrders::new, x -> x.move(move), STATE);
            Edges.refused("move(" + move + ") without a PLAY", Edges::resting, x -> x.move(move), STATE);
        }
    }

    static void promise18StateAfterRestoreOfNoPlay() {
        SidingOrders x = new SidingOrders();
        x.image(0);
        x.play(1, 1);
        x.restore(0);
        due("move(10)", x.move(10), STATE);
    }

    /** In YARD d2-;s1q2 with 42 at the ENTRY, 31 in the d, nothing in the s and the q. */
    private static SidingOrders open() {
        return Edges.playing("d2-;s1q2", 3142, 1234, 10, 11);
    }

    private static void no(String what, int move) {
        Edges.refused("move(" + move + "), " + what, PlayEdges::open, x -> x.move(move), NO);
    }

    static void promise18NoItIsFull() {
        no("the d is full", 10);
        no("the d is full at the FAR end", 11);
        SidingOrders x = open();
        due("move(1020)", x.move(1020), 3);
        due("move(20), the s is full", x.move(20), NO);
        due("move(1120), the s is full", x.move(1120), NO);
        due("move(10), room again", x.move(10), 4);
    }

    static void promise18NoNothingIsThere() {
        no("the s is empty", 2050);
        no("the q is empty", 3150);
        SidingOrders x = Edges.playing("-s1", 1, 1, 50);
        due("move(50), the ENTRY is empty", x.move(50), NO);
        due("move(10), the ENTRY is empty", x.move(10), NO);
    }

    static void promise18NoTheWayIsNotOpen() {
        no("from the ENTRY to the EXIT", 50);
        no("past the second STAGE", 1050);
        no("to itself", 1010);
        no("to itself, the other end", 1011);
        no("back from the EXIT", 5010);
        no("to the ENTRY", 1000);
        no("from the ENTRY to the ENTRY", 0);
    }

    static void promise18NoThereIsNoSuchSiding() {
        no("to SIDING 3", 40);
        no("from SIDING 3", 4050);
        no("to place 6", 60);
        no("from place 6", 6050);
        no("to place 9", 1090);
    }

    static void promise18NoThereIsNoSuchEnd() {
        no("in at the FAR end of an s", 21);
        no("in at the FAR end of a q", 31);
        no("end 2 of a d", 12);
        no("out at the FAR end of the ENTRY", 120);
        no("out at end 2 of a d", 1220);
        SidingOrders x = open();
        x.move(20);
        x.move(30);
        due("out at the FAR end of an s", x.move(2150), NO);
        due("out at the NEAR end of a q", x.move(3050), NO);
        due("the EXIT at its FAR end", x.move(2051), NO);
        due("the EXIT at its FAR end, from the q", x.move(3151), NO);
        due("out of the q", x.move(3150), 5);
        due("out of the s", x.move(2050), 6);
    }

    static void promise18NoBecauseOfAnyOtherNumber() {
        int[] can = {20, 30, 1020, 1030, 1120, 1130};
        for (int low = -500; low < 12000; low += 500) {
            SidingOrders x = open();
            for (int move = low; move < low + 500; move++) {
                boolean listed = Arrays.binarySearch(can, move) >= 0;
                if (!listed) {
                    int got = x.move(move);
                    if (got != NO) {
                        due("move(" + move + ")", got, NO);
                    }
                }
            }
            due("told(3) from " + low, x.told(3), 2);
        }
        for (int move : can) {
            due("move(" + move + ")", open().move(move), 3);
        }
        for (int move : new int[] {100020, 65536 + 20, 1 << 30, Edges.MIN, Edges.MIN + 20, Edges.MAX, -20, -1020}) {
            no("far", move);
        }
    }

    // ---- 19

    static void promise19HowManyAreLeft() {
        SidingOrders x = Check.on("s5;s5;s5");
        x.play(12345, 54321);
        for (int i = 0; i < 20; i++) {
            x.move(x.next());
        }
        for (int i = 19; i >= 0; i--) {
            due("back()", x.back(), i);
            due("told(3)", x.told(3), i);
        }
        due("back() at the beginning", x.back(), NO);
        standsAt("at the beginning", x, 12345, 0, 0, 0);
    }

    static void promise19EachKindOfMoveIsTakenBack() {
        int[] moves = {10, 11, 10, 1130, 1030, 11, 3050, 10, 11, 20, 1120, 1131, 3150};
        SidingOrders x = Edges.playing("d3;s1d2", 41325, 12345);
        String[] stood = new String[moves.length + 1];
        int done = 0;
        for (int move : moves) {
            stood[done] = stands(x);
            done += x.move(move) > 0 ? 1 : 0;
        }
        due("MOVES that could be done", done, 11);
        for (int i = done - 1; i >= 0; i--) {
            due("back()", x.back(), i);
            due("as it was after " + i, stands(x).equals(stood[i]) ? 1 : 0, 1);
        }
    }

    private static String stands(SidingOrders x) {
        StringBuilder text = new StringBuilder();
        for (int place = 0; place <= 5; place++) {
            text.append(x.stand(place)).append(' ');
        }
        return text.toString();
    }

    static void promise19StateThereIsNoPlay() {
        Edges.refused("back() of a new object", SidingOrders::new, x -> x.back(), STATE);
        Edges.refused("back() without a PLAY", Edges::resting, x -> x.back(), STATE);
        SidingOrders x = Edges.playing("s5", 1, 1, 10);
        Check.lay(x, "s5");
        due("back() after yard()", x.back(), STATE);
    }

    static void promise19NoThereIsNone() {
        Edges.refused("back(), just begun", () -> Edges.playing("s5", 12, 12), x -> x.back(), NO);
        Edges.refused("back(), all taken back", PlayEdges::takenBack, x -> x.back(), NO);
        Edges.refused("back(), begun anew", PlayEdges::begunAnew, x -> x.back(), NO);
    }

    private static SidingOrders takenBack() {
        SidingOrders x = Edges.playing("s5", 12, 12, 10);
        x.back();
        return x;
    }

    private static SidingOrders begunAnew() {
        SidingOrders x = Edges.playing("s5", 12, 12, 10, 10);
        x.play(12, 12);
        return x;
    }

    static void promise19ARefusedMoveIsNoMove() {
        SidingOrders x = Edges.playing("s1", 12, 12, 10);
        due("move(10)", x.move(10), NO);
        due("back()", x.back(), 0);
        due("back() again", x.back(), NO);
    }

    // ---- 20

    static void promise20StateThereIsNoPlay() {
        Edges.refused("rest() of a new object", SidingOrders::new, x -> x.rest(), STATE);
        Edges.refused("rest() without a PLAY", Edges::resting, x -> x.rest(), STATE);
    }

    static void promise20LeastAtTheBeginning() {
        for (int n = 1; n <= 5; n++) {
            SidingOrders x = new SidingOrders();
            x.play(HIGHEST[n - 1], LOWEST[n - 1]);
            due("rest() of " + n, x.rest(), 2 * n);
        }
        due("rest() of one MOVE", Edges.playing("-s1", 1, 1).rest(), 1);
        due("rest() of twenty", Edges.playing("s5;s5;s5", 12345, 54321).rest(), 20);
    }

    static void promise20TheFewestOfAll() {
        // Each wagon may go on to SIDING 2 first; for 2 that has a higher number than for 1 to go out.
        due("rest()", Edges.playing("s1s1;s1-", 12, 12, 10, 20).rest(), 2);
        due("rest() with one on its way", Edges.playing("s1s1;s1-", 12, 12, 10, 20, 2030).rest(), 2);
    }

    static void promise20ZeroItIsDone() {
        due("rest() of one wagon", Edges.playing("-s1", 1, 1, 50).rest(), 0);
        due("rest() of two wagons", Edges.playing("s5", 12, 21, 10, 10, 1050, 1050).rest(), 0);
        due("rest() of the last MOVE", Edges.playing("s5", 12, 21, 10, 10, 1050).rest(), 1);
    }

    static void promise20NoneItIsStuck() {
        due("STUCK from the beginning", Edges.playing("s5", 231, 123).rest(), NONE);
        due("1 lies under 2", Edges.playing("s5", 12, 12, 10, 10).rest(), NONE);
        due("the wrong one is out", Edges.playing("s5", 12, 21, 10, 1050).rest(), NONE);
        due("all are out, in another ORDER", Edges.playing("s5", 12, 21, 10, 1050, 10, 1050).rest(), NONE);
        due("the room is taken", Edges.playing("s1;s1", 12, 12, 10, 1020, 10).rest(), 3);
        due("the room is taken by 2", Edges.playing("s1s1;s1", 12, 12, 10, 20, 2030).rest(), NONE);
    }

    static void promise20MoreMovesThanAtBest() {
        // A MOVE that is no NEXT makes REST no less: 2 by the -, now 3.
        SidingOrders x = Edges.playing("-s1", 12, 12);
        due("rest()", x.rest(), 2);
        x.move(10);
        due("rest() after 10", x.rest(), 2);
        x.back();
        due("rest() taken back", x.rest(), 2);
    }

    static void promise20AndNextOnlyAsk() {
        SidingOrders x = Edges.busy();
        x.rest();
        x.next();
        x.moves(0);
        x.stand(0);
        Edges.same("after rest(), next(), moves(0), stand(0)", x, Edges.busy());
    }

    // ---- 21

    static void promise21StateThereIsNoPlay() {
        Edges.refused("next() of a new object", SidingOrders::new, x -> x.next(), STATE);
        Edges.refused("next() without a PLAY", Edges::resting, x -> x.next(), STATE);
    }

    static void promise21NoneItIsStuck() {
        due("STUCK from the beginning", Edges.playing("s5", 231, 123).next(), NONE);
        due("1 lies under 2", Edges.playing("s5", 12, 12, 10, 10).next(), NONE);
        due("all are out, in another ORDER", Edges.playing("s5", 12, 21, 10, 1050, 10, 1050).next(), NONE);
    }

    static void promise21NoneItIsDone() {
        due("one wagon", Edges.playing("-s1", 1, 1, 50).next(), NONE);
        due("two wagons", Edges.playing("s5", 12, 21, 10, 10, 1050, 1050).next(), NONE);
        due("not yet done", Edges.playing("s5", 12, 21, 10, 10, 1050).next(), 1050);
    }

    static void promise21TheLeastNumberOfThose() {
        due("both ends of the d will do", Edges.playing("d5", 1, 1).next(), 10);
        due("out of the d with one wagon", Edges.playing("d5", 1, 1, 11).next(), 1050);
        due("out at the FAR end alone", Edges.playing("d5", 12, 12, 10, 10).next(), 1150);
        due("either s will do", Edges.playing("s1s1", 21, 12).next(), 10);
        due("the other s", Edges.playing("s1s1", 21, 12, 10).next(), 20);
    }

    static void promise21NotTheLeastOfAll() {
        // 10 can be done, but REST is not one less by it.
        due("50 before 10", Edges.playing("-s1", 12, 12).next(), 50);
        due("1050 before 10 is in the way", Edges.playing("s5", 12, 12, 10).next(), 1050);
    }

    static void promise21OtherCallsBetween() {
        SidingOrders x = Edges.playing("s5", 321, 123, 10);
        due("next()", x.next(), 10);
        x.first(12, 12, 1);
        x.need(21, 0);
        x.good(4, 1);
        x.thumb(231, 1);
        due("next() as it was", x.next(), 10);
        due("rest() as it was", x.rest(), 5);
    }

    // ---- 22

    private static void moves(SidingOrders x, int... want) {
        due("moves(-1)", x.moves(-1), want.length);
        for (int i = 0; i < want.length; i++) {
            due("moves(" + i + ")", x.moves(i), want[i]);
        }
        due("moves(" + want.length + ")", x.moves(want.length), NONE);
        for (int i : FAR) {
            due("moves(" + i + ")", x.moves(i), NONE);
        }
    }

    static void promise22StateThereIsNoPlay() {
        for (int i : new int[] {-1, 0, -2, 1, Edges.MIN, Edges.MAX}) {
            Edges.refused("moves(" + i + ") of a new object", SidingOrders::new, x -> x.moves(i), STATE);
            Edges.refused("moves(" + i + ") without a PLAY", Edges::resting, x -> x.moves(i), STATE);
        }
    }

    static void promise22HowManyAndTheIth() {
        moves(Edges.playing("s5", 1, 1), 10);
        moves(Edges.playing("-d1", 1, 1), 10, 11, 50);
        moves(open(), 20, 30, 1020, 1030, 1120, 1130);
    }

    static void promise22NothingCanBeDone() {
        moves(Edges.playing("s5", 1, 1, 10, 1050));
        moves(Edges.playing("-s1", 54321, 54321, 50, 50, 50, 50, 50));
    }

    static void promise22TheMostThatCanBe() {
        SidingOrders x = Edges.playing("d5-;d5-;d5d5-", 12345, 12345, 10, 20, 30, 40);
        due("moves(-1)", x.moves(-1), 37);
        due("moves(0)", x.moves(0), 10);
        due("moves(8)", x.moves(8), 50);
        due("moves(9)", x.moves(9), 1020);
        due("moves(22)", x.moves(22), 1150);
        due("moves(35)", x.moves(35), 4050);
        due("moves(36)", x.moves(36), 4150);
        due("moves(37)", x.moves(37), NONE);
        for (int i = 1; i < 37; i++) {
            due("moves(" + i + ") is higher", x.moves(i) > x.moves(i - 1) ? 1 : 0, 1);
        }
    }

    static void promise22StuckMovesAreMoves() {
        moves(Edges.playing("s5", 231, 123), 10);
        moves(Edges.playing("s5", 12, 12, 10, 10), 1050);
    }

    static void promise22FullOnesAreNotListed() {
        moves(Edges.playing("s1s2", 123, 123, 10), 20, 1050);
        moves(Edges.playing("s1s2", 123, 123, 10, 20), 20, 1050, 2050);
        moves(Edges.playing("s1s1", 123, 123, 10, 20), 1050, 2050);
    }

    // ---- 23

    static void promise23ZeroNone() {
        standsAt("begun", Edges.playing("s5s5s5s5", 12, 12), 12, 0, 0, 0, 0, 0);
        standsAt("done", Edges.playing("-s1", 12, 12, 50, 50), 0, 0);
    }

    static void promise23TheFirstAtTheEntryFirst() {
        SidingOrders x = Edges.playing("s5", 31425, 12345);
        due("stand(0)", x.stand(0), 31425);
        x.move(10);
        due("stand(0)", x.stand(0), 1425);
        x.move(10);
        due("stand(0)", x.stand(0), 425);
    }

    static void promise23SidingsFromTheNearEndOn() {
        standsAt("an s", Edges.playing("s5", 123, 123, 10, 10, 10), 0, 321);
        standsAt("a q", Edges.playing("q5", 123, 123, 10, 10, 10), 0, 321);
        standsAt("a d, from both", Edges.playing("d5", 123, 123, 10, 11, 10), 0, 312);
    }

    static void promise23TheFirstThatLeftFirst() {
        SidingOrders x = Edges.playing("-s5", 31425, 12345, 50, 10, 50, 50, 1050, 50);
        due("stand(5)", x.stand(5), 34215);
    }

    static void promise23FiveWagonsAtOnePlace() {
        standsAt("all in", Edges.playing("d5", 54321, 12345, 10, 10, 10, 10, 10), 0, 12345);
        due("all out", Edges.playing("-d5", 54321, 54321, 50, 50, 50, 50, 50).stand(5), 54321);
    }

    static void promise23UnknownSidings() {
        String[] yards = {"s1", "s1q1", "s1q1d1", "s1q1d1s1"};
        for (int count = 1; count <= 4; count++) {
            String yard = yards[count - 1];
            SidingOrders x = Edges.playing(yard, 1, 1);
            for (int place = 1; place <= 4; place++) {
                due("stand(" + place + ") of " + yard, x.stand(place), place <= count ? 0 : UNKNOWN);
            }
            due("stand(5) of " + yard, x.stand(5), 0);
        }
        Edges.refusedAnywhere("stand(4)", x -> x.stand(4), UNKNOWN);
    }

    static void promise23OutsidePlaces() {
        for (int place : new int[] {-1, 6, 7, Edges.MIN, Edges.MAX}) {
            Edges.refusedAnywhere("stand(" + place + ")", x -> x.stand(place), OUTSIDE);
        }
    }

    static void promise23StateThereIsNoPlay() {
        for (int place : new int[] {0, 1, 5}) {
            Edges.refused("stand(" + place + ") of a new object", SidingOrders::new, x -> x.stand(place), STATE);
            Edges.refused("stand(" + place + ") without a PLAY", Edges::resting, x -> x.stand(place), STATE);
        }
    }
}
