/** Promises 27 to 29. */
final class ImageEdges {
    private static final int OUTSIDE = Edges.OUTSIDE, STATE = Edges.STATE, NO = Edges.NO, NONE = Edges.NONE;
    private static final int[] NO_IMAGES = {-1, -2, 2, 3, Edges.MIN, Edges.MAX};

    private ImageEdges() {
    }

    private static void due(String what, long got, long want) {
        Check.due(what, got, want);
    }

    // ---- 27

    static void promise27ZeroAndOne() {
        for (int n = 0; n < 2; n++) {
            SidingOrders x = new SidingOrders();
            due("image(" + n + ")", x.image(n), 1);
            due("restore(" + n + ")", x.restore(n), 1);
            due("restore(" + (1 - n) + ")", x.restore(1 - n), STATE);
        }
    }

    static void promise27Outside() {
        for (int n : NO_IMAGES) {
            Edges.refusedAnywhere("image(" + n + ")", x -> x.image(n), OUTSIDE);
        }
    }

    static void promise27OutsideKeepsNothing() {
        SidingOrders x = new SidingOrders();
        x.image(2);
        x.image(-1);
        due("restore(0)", x.restore(0), STATE);
        due("restore(1)", x.restore(1), STATE);
    }

    static void promise27TheYardIsKept() {
        SidingOrders x = Check.on("-q2s1;d3");
        x.image(1);
        // Each SIDING has another letter, LENGTH and STAGE in between.
        Check.lay(x, "d5;s5;q5q1");
        x.restore(1);
        due("told(1)", x.told(1), 3);
        due("told(2)", x.told(2), 2);
        int[][] want = {{'q', 2, 0}, {'s', 1, 0}, {'d', 3, 1}};
        for (int i = 0; i < 3; i++) {
            for (int what = 0; what < 3; what++) {
                due("siding(" + i + ", " + what + ")", x.siding(i, what), want[i][what]);
            }
        }
        due("leads(0, 3)", x.leads(0, 3), 1);
        due("leads(0, 5)", x.leads(0, 5), 0);
        due("least(1, 1)", x.least(1, 1), 2);
    }

    static void promise27TheOtherYardIsKept() {
        SidingOrders x = Check.on("q1q1");
        x.keep();
        x.image(0);
        Check.lay(x, "s5");
        x.keep();
        x.restore(0);
        due("told(4)", x.told(4), 2);
        due("unlike(3)", x.unlike(3), NONE);
        Check.lay(x, "s5");
        due("unlike(3) of s5", x.unlike(3), 321);
    }

    static void promise27ThePlayIsKept() {
        SidingOrders x = Edges.playing("s2q2", 3124, 1234, 10, 20);
        x.image(0);
        x.play(21, 21);
        x.restore(0);
        due("told(3)", x.told(3), 2);
        due("stand(0)", x.stand(0), 24);
        due("stand(1)", x.stand(1), 3);
        due("stand(2)", x.stand(2), 1);
        due("stand(5)", x.stand(5), 0);
        due("rest()", x.rest(), 6);
        due("next()", x.next(), 10);
    }

    static void promise27NoPlayIsKept() {
        SidingOrders x = new SidingOrders();
        x.image(0);
        x.play(1, 1);
        due("restore(0)", x.restore(0), 1);
        due("told(3)", x.told(3), NONE);
        due("back()", x.back(), STATE);
    }

    static void promise27TheSignsAreNotKept() {
        SidingOrders x = Edges.padded("q1");
        x.image(0);
        x.say('d');
        x.restore(0);
        due("told(0)", x.told(0), 3);
        due("wipe()", x.wipe(), 3);
        x.restore(0);
        due("told(0) after wipe()", x.told(0), 0);
    }

    static void promise27KeptAnewTheOldIsGone() {
        SidingOrders x = Edges.playing("s5", 12, 12, 10);
        x.image(1);
        x.move(1050);
        due("image(1) again", x.image(1), 1);
        x.back();
        x.back();
        x.restore(1);
        due("told(3)", x.told(3), 2);
        due("stand(5)", x.stand(5), 1);
    }

    static void promise27BothAreApart() {
        SidingOrders x = Check.on("q1");
        x.image(0);
        Check.lay(x, "d2d2");
        x.play(21, 12);
        x.image(1);
        Check.lay(x, "s3");
        x.restore(0);
        due("SIDINGS of 0", x.told(1), 1);
        due("PLAY of 0", x.told(3), NONE);
        x.restore(1);
        due("SIDINGS of 1", x.told(1), 2);
        due("PLAY of 1", x.told(3), 0);
        x.restore(0);
        due("letter of 0", x.siding(0, 0), 'q');
    }

    static void promise27NothingElseChanges() {
        SidingOrders x = Edges.busy();
        due("image(0)", x.image(0), 1);
        due("told(0)", x.told(0), 4);
        due("told(1)", x.told(1), 3);
        due("told(3)", x.told(3), 3);
        due("told(4)", x.told(4), 2);
        due("stand(1)", x.stand(1), 31);
        due("back()", x.back(), 2);
        // The other IMAGE is as it was.
        due("restore(1)", x.restore(1), 1);
        due("told(1) of 1", x.told(1), 2);
        due("told(3) of 1", x.told(3), 1);
    }

    // ---- 28

    static void promise28Outside() {
        for (int n : NO_IMAGES) {
            Edges.refusedAnywhere("restore(" + n + ")", x -> x.restore(n), OUTSIDE);
        }
    }

    static void promise28StateItWasNotKept() {
        Edges.refused("restore(0) of a new object", SidingOrders::new, x -> x.restore(0), STATE);
        Edges.refused("restore(1) of a new object", SidingOrders::new, x -> x.restore(1), STATE);
        Edges.refused("restore(1), 0 is kept", () -> imaged(0), x -> x.restore(1), STATE);
        Edges.refused("restore(0), 1 is kept", () -> imaged(1), x -> x.restore(0), STATE);
    }

    private static SidingOrders imaged(int n) {
        SidingOrders x = Edges.playing("d2q1", 21, 12, 10);
        x.image(n);
        x.keep();
        Check.lay(x, "s2;s1");
        x.play(12, 12);
        x.move(10);
        Check.say(x, "s2-q");
        return x;
    }

    static void promise28AsTheyWereWhenKept() {
        SidingOrders x = Edges.busy();
        SidingOrders y = Edges.busy();
        x.image(0);
        y.image(0);
        x.back();
        x.keep();
        Check.say(x, "1");
        x.wipe();
        Check.lay(x, "s1;s1");
        x.play(12345, 54321);
        x.move(10);
        Check.say(x, "s3;q");
        due("restore(0)", x.restore(0), 1);
        Edges.same("restored and never changed", x, y);
    }

    static void promise28TheRowOfMovesComesBackToo() {
        SidingOrders x = Edges.playing("d3;s2", 123, 123, 10, 11, 1120);
        x.image(0);
        Check.lay(x, "s5");
        x.play(321, 123);
        for (int i = 0; i < 6; i++) {
            x.move(x.next());
        }
        x.restore(0);
        due("told(3)", x.told(3), 3);
        due("back()", x.back(), 2);
        due("stand(1)", x.stand(1), 12);
        due("back()", x.back(), 1);
        due("back()", x.back(), 0);
        due("stand(0)", x.stand(0), 123);
        due("back() at the beginning", x.back(), NO);
    }

    static void promise28TheLongestRowComesBack() {
        SidingOrders x = Check.on("s5;s5;s5");
        x.play(12345, 54321);
        for (int i = 0; i < 20; i++) {
            x.move(x.next());
        }
        x.image(1);
        x.play(1, 1);
        x.restore(1);
        due("rest()", x.rest(), 0);
        for (int i = 19; i >= 0; i--) {
            due("back()", x.back(), i);
        }
        due("stand(0)", x.stand(0), 12345);
    }

    static void promise28TheImageStays() {
        SidingOrders x = Edges.playing("s5", 12, 12, 10);
        x.image(0);
        for (int i = 0; i < 3; i++) {
            x.move(1050);
            x.back();
            x.back();
            Check.lay(x, "q1");
            due("restore(0)", x.restore(0), 1);
            due("told(3)", x.told(3), 1);
            due("stand(1)", x.stand(1), 1);
            due("siding(0, 0)", x.siding(0, 0), 's');
        }
    }

    static void promise28WhatWasFoundInBetweenIsForgotten() {
        SidingOrders x = Edges.playing("s5s5", 123, 312);
        due("need(321, 0) before", x.need(321, 0), 1);
        x.image(0);
        Check.lay(x, "s5");
        due("need(321, 0) in s5", x.need(321, 0), 3);
        due("play(123, 312) in s5", x.play(123, 312), NONE);
        due("good(3, 0) in s5", x.good(3, 0), 5);
        x.restore(0);
        due("need(321, 0)", x.need(321, 0), 1);
        due("rest()", x.rest(), 6);
        due("next()", x.next(), 10);
        due("good(3, 0)", x.good(3, 0), 6);
        due("first(123, 312, 0)", x.first(123, 312, 0), 10);
    }

    static void promise28WhatWasNotYetFoundWhenKeptIsFound() {
        SidingOrders x = Check.on("s5s5");
        x.image(1);
        Check.lay(x, "q5");
        due("good(3, 0) of q5", x.good(3, 0), 1);
        due("ways(54321, 12345) of q5", x.ways(54321, 12345), 0);
        x.restore(1);
        due("good(3, 0)", x.good(3, 0), 6);
        due("ways(54321, 12345)", x.ways(54321, 12345), 32);
    }

    static void promise28WhatWasFoundWhenKeptIsRight() {
        // The first and the last ORDER of all: 1, and 54321 from 12345.
        SidingOrders x = Check.on("d1d5");
        long one = x.ways(1, 1);
        long five = x.ways(12345, 54321);
        due("ways(1, 1)", one, 8);
        x.image(0);
        Check.lay(x, "s5");
        due("ways(1, 1) of s5", x.ways(1, 1), 1);
        due("ways(12345, 54321) of s5", x.ways(12345, 54321), 1);
        x.restore(0);
        due("ways(1, 1) again", x.ways(1, 1), 8);
        due("ways(12345, 54321) again", x.ways(12345, 54321), five);
        due("ways(12345, 54321) of another object", Check.on("d1d5").ways(12345, 54321), five);
        due("least(12345, 54321)", x.least(12345, 54321), 10);
    }

    static void promise28TheSameOrderInBetween() {
        // No other ORDER is asked for in between.
        SidingOrders x = Edges.playing("s5s5", 123, 312);
        x.image(0);
        Check.lay(x, "s5");
        x.play(123, 312);
        due("rest() in s5", x.rest(), NONE);
        x.restore(0);
        due("rest()", x.rest(), 6);
        due("next()", x.next(), 10);
    }

    // ---- 29

    private static void told(String what, SidingOrders x, int... want) {
        for (int i = 0; i < want.length; i++) {
            due("told(" + i + ") of " + what, x.told(i), want[i]);
        }
    }

    static void promise29OfANewObject() {
        told("a new object", new SidingOrders(), 0, 1, 1, NONE, 1);
    }

    static void promise29TheMostOfEach() {
        SidingOrders x = Check.on("s5;s5;s5s1");
        x.keep();
        x.play(12345, 54321);
        for (int i = 0; i < 20; i++) {
            x.move(x.next());
        }
        Check.say(x, "ssssssssssssssssss");
        told("the most", x, 16, 4, 3, 20, 4);
    }

    static void promise29StagesAreCounted() {
        told("two STAGES", Check.on("s1;q1"), 0, 2, 2, NONE, 1);
        told("STAGES of a - alone", Check.on("-;-;s1"), 0, 1, 3, NONE, 1);
        told("four side by side", Check.on("s1q1d1s1-"), 0, 4, 1, NONE, 1);
    }

    static void promise29MovesDoneOrNone() {
        SidingOrders x = new SidingOrders();
        due("no PLAY", x.told(3), NONE);
        x.play(12, 12);
        due("just begun", x.told(3), 0);
        x.move(10);
        due("one", x.told(3), 1);
        x.move(99);
        due("a refused one", x.told(3), 1);
        x.back();
        due("taken back", x.told(3), 0);
        Check.lay(x, "s5");
        due("no PLAY any more", x.told(3), NONE);
    }

    static void promise29Outside() {
        for (int what : new int[] {-1, -2, 5, 6, Edges.MIN, Edges.MAX}) {
            Edges.refusedAnywhere("told(" + what + ")", x -> x.told(what), OUTSIDE);
        }
    }
}
