/** Promises 1 to 7. */
final class YardEdges {
    private static final int UNKNOWN = Edges.UNKNOWN, OUTSIDE = Edges.OUTSIDE, STATE = Edges.STATE, FULL = Edges.FULL,
        NO = Edges.NO, NONE = Edges.NONE;
    private static final int SIGNS = 16;
    private static final String LONGEST = "-s1;-q2;-d3s4";

    private YardEdges() {
    }

    private static void due(String what, long got, long want) {
        Check.due(what, got, want);
    }

    // ---- 1

    static void promise1TheYardIsS5() {
        SidingOrders x = new SidingOrders();
        due("siding(0, 0)", x.siding(0, 0), 's');
        due("siding(0, 1)", x.siding(0, 1), 5);
        due("siding(0, 2)", x.siding(0, 2), 0);
        due("siding(1, 0)", x.siding(1, 0), UNKNOWN);
        due("told(1)", x.told(1), 1);
        due("told(2)", x.told(2), 1);
        due("leads(0, 1)", x.leads(0, 1), 1);
        due("leads(1, 5)", x.leads(1, 5), 1);
        due("leads(0, 5)", x.leads(0, 5), 0);
        due("least(54321, 12345)", x.least(54321, 12345), 10);
    }

    static void promise1TheOtherYardIsS5() {
        SidingOrders x = new SidingOrders();
        due("told(4)", x.told(4), 1);
        for (int n = 1; n <= 5; n++) {
            due("unlike(" + n + ")", x.unlike(n), NONE);
        }
        // 54321 alone needs a LENGTH of 5.
        Check.lay(x, "s4");
        due("unlike(4) of s4", x.unlike(4), NONE);
        due("unlike(5) of s4", x.unlike(5), 54321);
    }

    static void promise1NoPlay() {
        SidingOrders x = new SidingOrders();
        due("told(3)", x.told(3), NONE);
        due("move(10)", x.move(10), STATE);
        due("back()", x.back(), STATE);
        due("rest()", x.rest(), STATE);
        due("next()", x.next(), STATE);
        due("moves(-1)", x.moves(-1), STATE);
        due("stand(0)", x.stand(0), STATE);
    }

    static void promise1ThePadIsEmpty() {
        due("told(0)", new SidingOrders().told(0), 0);
        due("wipe()", new SidingOrders().wipe(), 0);
        due("fault()", new SidingOrders().fault(), 0);
        due("yard()", new SidingOrders().yard(), NO);
        due("say('s')", new SidingOrders().say('s'), 1);
    }

    static void promise1NoImages() {
        due("restore(0)", new SidingOrders().restore(0), STATE);
        due("restore(1)", new SidingOrders().restore(1), STATE);
    }

    static void promise1ObjectsAreApart() {
        SidingOrders x = Edges.busy();
        SidingOrders y = new SidingOrders();
        x.wipe();
        Edges.same("a new object beside a busy one", y, new SidingOrders());
    }

    // ---- 2

    static void promise2ASignMoreHowMany() {
        SidingOrders x = new SidingOrders();
        for (int i = 1; i <= SIGNS; i++) {
            due("say, " + i, x.say('-'), i);
            due("told(0)", x.told(0), i);
        }
    }

    static void promise2TheLeastSignIs33() {
        due("say(33)", new SidingOrders().say(33), 1);
        Edges.refusedAnywhere("say(32)", x -> x.say(32), OUTSIDE);
    }

    static void promise2TheGreatestSignIs126() {
        due("say(126)", new SidingOrders().say(126), 1);
        Edges.refusedAnywhere("say(127)", x -> x.say(127), OUTSIDE);
    }

    static void promise2EachSignBetweenIsTaken() {
        for (int sign = 33; sign <= 126; sign++) {
            due("say(" + sign + ")", new SidingOrders().say(sign), 1);
        }
    }

    static void promise2FarSignsAreOutside() {
        int[] far = {0, -1, 31, 128, 255, 256 + 's', 65536 + 's', Edges.MIN + 's', Edges.MIN, Edges.MAX};
        for (int sign : far) {
            Edges.refusedAnywhere("say(" + sign + ")", x -> x.say(sign), OUTSIDE);
        }
    }

    static void promise2TheSixteenthSignIsTaken() {
        SidingOrders x = Edges.padded("-s1;-q2;-d3s4ab");
        due("told(0)", x.told(0), 15);
        due("say, 16", x.say('c'), 16);
    }

    static void promise2TheSeventeenthSignIsFull() {
        for (int sign : new int[] {33, 's', '5', 126}) {
            Edges.Made full = () -> Edges.padded("-s1;-q2;-d3s4abc");
            Edges.refused("say(" + sign + "), the PAD full", full, x -> x.say(sign), FULL);
        }
    }

    static void promise2ThereIsRoomAgainAfterWipe() {
        SidingOrders x = Edges.padded("-s1;-q2;-d3s4abc");
        x.wipe();
        due("say", x.say('s'), 1);
    }

    static void promise2SignsStandOneBehindAnother() {
        SidingOrders x = Edges.padded("d4q2");
        x.yard();
        due("letters", x.siding(0, 0) * 1000 + x.siding(1, 0), 'd' * 1000 + 'q');
        due("LENGTHS", x.siding(0, 1) * 10 + x.siding(1, 1), 42);
    }

    // ---- 3

    static void promise3NothingToWipe() {
        Edges.refused("wipe() of a new object", SidingOrders::new, x -> x.wipe(), 0);
    }

    static void promise3HowManyThereWere() {
        for (int signs = 1; signs <= SIGNS; signs++) {
            SidingOrders x = Edges.padded("s5;s5;s5;s5;s5;s".substring(0, signs));
            due("wipe() of " + signs, x.wipe(), signs);
            due("wipe() again", x.wipe(), 0);
            due("told(0)", x.told(0), 0);
            due("fault()", x.fault(), 0);
        }
    }

    static void promise3ASeventeenthSignIsNotCounted() {
        SidingOrders x = Edges.padded("s5;s5;s5;s5;s5;s5");
        due("wipe()", x.wipe(), SIGNS);
    }

    static void promise3SignsAloneGo() {
        SidingOrders x = Edges.busy();
        SidingOrders y = Edges.busy();
        due("wipe()", x.wipe(), 4);
        due("told(3)", x.told(3), 3);
        Check.say(x, "s3;q");
        Edges.same("all but the signs", x, y);
    }

    static void promise3OldSignsDoNotComeBack() {
        SidingOrders x = Edges.padded("s1q2d3");
        x.wipe();
        x.say('s');
        due("fault()", x.fault(), 1);
        x.say('4');
        due("fault()", x.fault(), NONE);
        due("yard()", x.yard(), 1);
        due("siding(0, 1)", x.siding(0, 1), 4);
    }

    // ---- 4

    private static void fault(String text, int want) {
        SidingOrders x = Edges.padded(text);
        due("told(0) of " + text, x.told(0), text.length());
        due("fault() of " + text, x.fault(), want);
        due("fault() of " + text + " again", x.fault(), want);
        due("yard() of " + text, x.yard() >= 1 ? 1 : 0, want == NONE ? 1 : 0);
    }

    /** Behind a text each of the signs of the first kind makes another fault than those of the second, and the rest. */
    private static void behind(String text, String fine, int faultOfFine, String more, int faultOfMore) {
        for (char sign = 33; sign <= 126; sign++) {
            int want = fine.indexOf(sign) >= 0 ? faultOfFine : more.indexOf(sign) >= 0 ? faultOfMore : text.length();
            fault(text + sign, want);
        }
    }

    static void promise4NothingLacksASign() {
        fault("", 0);
    }

    static void promise4TheFirstSign() {
        // Not ; and no digit: each first sign but these lacks more.
        behind("", "sqd-", 1, "", 0);
    }

    static void promise4BehindALetterALength1To5() {
        behind("s", "12345", NONE, "", 0);
        behind("q", "12345", NONE, "", 0);
        behind("d", "12345", NONE, "", 0);
        behind("s1;d", "12345", NONE, "", 0);
    }

    static void promise4BehindASiding() {
        behind("s1", "sqd;", 3, "-", NONE);
    }

    static void promise4BehindAStraightOn() {
        behind("-", "sqd;", 2, "", 0);
        behind("s1-", "sqd;", 4, "", 0);
    }

    static void promise4BehindASemicolon() {
        behind("s1;", "sqd", 4, "-", NONE);
        behind("-;", "sqd-", 3, "", 0);
    }

    static void promise4AFifthSidingsLetter() {
        behind("s1q1d1s1", ";", 9, "-", NONE);
        behind("s1q1d1s1-", ";", 10, "", 0);
        behind("s1q1;d1s1;", "-", NONE, "", 0);
        fault("s1q1d1s1q", 8);
        fault("s1q1d1s1q1", 8);
        fault("s1;q1d1s1;s1", 10);
    }

    static void promise4FourSidingsCanStand() {
        fault("s1q2d3s4", NONE);
        fault("s1;q2;d3s", 9);
        fault("s1;q2;d3s4", NONE);
    }

    static void promise4ASecondStraightOnOfAStage() {
        fault("--", 1);
        fault("-s1-", 3);
        fault("s1-q1-", 5);
        fault("s1;-q1-", 6);
    }

    static void promise4AStraightOnOfEachStage() {
        fault("-s1;-;-", NONE);
        fault("s1-;-q1;d1-", NONE);
    }

    static void promise4ASemicolonBehindTheThirdStage() {
        behind("s1;q1;d1", "sqd", 9, "-", NONE);
        fault("s1;q1;d1;", 8);
        fault("s1;-;-;", 6);
        fault("-;-;-;", 5);
        fault("s1;q1;d1;s1", 8);
    }

    static void promise4ThreeStagesCanStand() {
        fault("s1", NONE);
        fault("s1;q1", NONE);
        fault("s1;q1;d1", NONE);
    }

    static void promise4AStageWithoutAnything() {
        fault(";", 0);
        fault(";s1", 0);
        fault("s1;;", 3);
        fault("s1;;q1", 3);
        fault("s1;q1;;", 6);
        fault("-;;", 2);
    }

    static void promise4MoreMustCome() {
        fault("s", 1);
        fault("s1;", 3);
        fault("s1;q", 4);
        fault("s1;q1;", 6);
        fault("s1q1d1s1;", 9);
        fault(LONGEST.substring(0, 12), 12);
    }

    static void promise4AYardWithoutASiding() {
        fault("-", 1);
        fault("-;-", 3);
        fault("-;-;-", 5);
        fault("-;-;-s1", NONE);
    }

    static void promise4TheFirstFaultIsTold() {
        fault("x;;--", 0);
        fault("s1;;--s6", 3);
        fault("s6;;", 1);
    }

    static void promise4AFullPad() {
        fault(LONGEST, NONE);
        for (char sign = 33; sign <= 126; sign++) {
            fault(LONGEST + sign, 13);
        }
        fault(LONGEST + "s1s", 13);
        fault("xxxxxxxxxxxxxxxx", 0);
        fault("ssssssssssssssss", 1);
    }

    static void promise4ItOnlyAsks() {
        SidingOrders x = Edges.busy();
        due("fault()", x.fault(), 4);
        Edges.same("after fault()", x, Edges.busy());
    }

    // ---- 5

    static void promise5HowManySidings() {
        String[] yards = {"s1", "s1;q2", "-d1q1;s1", "s1q2d3s4", LONGEST};
        int[] sidings = {1, 2, 3, 4, 4};
        for (int i = 0; i < yards.length; i++) {
            SidingOrders x = Edges.padded(yards[i]);
            due("yard() of " + yards[i], x.yard(), sidings[i]);
            due("told(1) of " + yards[i], x.told(1), sidings[i]);
        }
    }

    static void promise5TheSignsAreGone() {
        SidingOrders x = Edges.padded("q2");
        x.yard();
        due("told(0)", x.told(0), 0);
        due("fault()", x.fault(), 0);
        due("wipe()", x.wipe(), 0);
        due("yard() again", x.yard(), NO);
        due("say", x.say('s'), 1);
    }

    static void promise5ThePlayIsGone() {
        SidingOrders x = Edges.playing("q2", 12, 12, 10);
        Check.say(x, "q2");
        due("told(3) before", x.told(3), 1);
        due("yard(), the same", x.yard(), 1);
        due("told(3)", x.told(3), NONE);
        due("move(10)", x.move(10), STATE);
        due("back()", x.back(), STATE);
        due("rest()", x.rest(), STATE);
        due("next()", x.next(), STATE);
        due("moves(-1)", x.moves(-1), STATE);
        due("stand(0)", x.stand(0), STATE);
    }

    static void promise5NoBecauseOfAFault() {
        String[] texts = {"", "s", "s6", "-", ";", "s1;", "s1s1s1s1s1", "s1--", "s1;q1;d1;", "-;-;-", "s1x"};
        for (String text : texts) {
            Edges.refused("yard() of " + text, () -> beforeYard(text), x -> x.yard(), NO);
        }
    }

    private static SidingOrders beforeYard(String text) {
        SidingOrders x = Edges.busy();
        x.wipe();
        Check.say(x, text);
        return x;
    }

    static void promise5RefusedSignsCanBeMended() {
        SidingOrders x = Edges.padded("q");
        due("yard()", x.yard(), NO);
        due("told(0)", x.told(0), 1);
        x.say('3');
        due("yard(), mended", x.yard(), 1);
        due("siding(0, 1)", x.siding(0, 1), 3);
    }

    static void promise5TheOtherAndTheImagesStay() {
        SidingOrders x = Edges.playing("q2s1", 21, 12, 10);
        x.keep();
        x.image(0);
        Check.lay(x, "d1");
        due("told(4)", x.told(4), 2);
        due("unlike(2)", x.unlike(2), 21);
        due("restore(0)", x.restore(0), 1);
        due("told(1)", x.told(1), 2);
        due("stand(1)", x.stand(1), 2);
    }

    static void promise5WhatWasFoundInTheOldYardIsForgotten() {
        SidingOrders x = Check.on("s5");
        ask(x, 10, 1, 5, 3, 5, NONE);
        Check.lay(x, "q5");
        ask(x, NONE, 0, 1, NO, 1, NONE);
        Check.lay(x, "s5s5");
        ask(x, 10, 8, 6, 1, 6, 6);
    }

    private static void ask(SidingOrders x, int least, int ways, int good, int need, int orders, int odd) {
        due("least(54321, 12345)", x.least(54321, 12345), least);
        due("ways(321, 123)", x.ways(321, 123), ways);
        due("good(3, 0)", x.good(3, 0), good);
        due("need(321, 0)", x.need(321, 0), need);
        due("orders(123, -1)", x.orders(123, -1), orders);
        due("play(123, 312)", x.play(123, 312), odd);
        due("rest()", x.rest(), odd);
    }

    static void promise5WhatWasFoundForTheSameOrderIsForgotten() {
        // No other ORDER is asked for in between.
        SidingOrders x = Edges.playing("s5", 123, 312);
        due("rest() in s5", x.rest(), NONE);
        Check.lay(x, "s5s5");
        due("play(123, 312) in s5s5", x.play(123, 312), 6);
        due("rest() in s5s5", x.rest(), 6);
        due("next() in s5s5", x.next(), 10);
        Check.lay(x, "-s5");
        due("first(123, 312, 0) in -s5", x.first(123, 312, 0), NONE);
        Check.lay(x, "-s5s5");
        due("first(123, 312, 0) in -s5s5", x.first(123, 312, 0), 10);
        due("first(123, 312, 2) in -s5s5", x.first(123, 312, 2), 50);
    }

    static void promise5TheOldStraightOnesAreGone() {
        SidingOrders x = Check.on("-s1;-;-");
        due("leads(0, 5) before", x.leads(0, 5), 1);
        Check.lay(x, "s1;s1");
        due("leads(0, 5)", x.leads(0, 5), 0);
        due("leads(0, 2)", x.leads(0, 2), 0);
        due("leads(1, 5)", x.leads(1, 5), 0);
        due("least(1, 1)", x.least(1, 1), 3);
    }

    // ---- 6

    static void promise6LetterLengthStage() {
        SidingOrders x = Check.on("s1q2;d3;s5");
        int[][] want = {{'s', 1, 0}, {'q', 2, 0}, {'d', 3, 1}, {'s', 5, 2}};
        for (int i = 0; i < want.length; i++) {
            for (int what = 0; what < 3; what++) {
                due("siding(" + i + ", " + what + ")", x.siding(i, what), want[i][what]);
            }
        }
    }

    static void promise6AStraightOnIsNoSiding() {
        SidingOrders x = Check.on("-;-q4");
        due("siding(0, 0)", x.siding(0, 0), 'q');
        due("siding(0, 1)", x.siding(0, 1), 4);
        due("siding(0, 2)", x.siding(0, 2), 1);
        due("siding(1, 0)", x.siding(1, 0), UNKNOWN);
    }

    static void promise6UnknownSidings() {
        String[] yards = {"s1", "s1q1", "s1q1d1", "s1q1d1s1"};
        for (int count = 1; count <= 4; count++) {
            String yard = yards[count - 1];
            int last = count - 1;
            due("the last of " + yard, Check.on(yard).siding(last, 1), 1);
            for (int i : new int[] {-1, count, count + 1, 4, 5, Edges.MIN, Edges.MAX}) {
                Edges.refused("siding(" + i + ", 0) of " + yard, () -> Check.on(yard), x -> x.siding(i, 0), UNKNOWN);
            }
        }
    }

    static void promise6ASidingThatWasIsUnknown() {
        SidingOrders x = Check.on("s1q1d1s1");
        Check.lay(x, "q2");
        due("siding(1, 0)", x.siding(1, 0), UNKNOWN);
        due("siding(3, 1)", x.siding(3, 1), UNKNOWN);
    }

    static void promise6OutsideWhat() {
        for (int what : new int[] {-1, 3, 4, Edges.MIN, Edges.MAX}) {
            Edges.refusedAnywhere("siding(0, " + what + ")", x -> x.siding(0, what), OUTSIDE);
        }
    }

    // ---- 7

    private static void leads(String yard, int[][] want) {
        SidingOrders x = Check.on(yard);
        for (int from = 0; from <= 4; from++) {
            for (int to = 1; to <= 5; to++) {
                due("leads(" + from + ", " + to + ") of " + yard, x.leads(from, to), want[from][to - 1]);
            }
        }
    }

    static void promise7FromStageToStage() {
        leads("s1;q1;d1s1", new int[][] {{1, 0, 0, 0, 0}, {0, 1, 0, 0, 0}, {0, 0, 1, 1, 0}, {0, 0, 0, 0, 1},
            {0, 0, 0, 0, 1}});
        leads("-s1;-q1;-d1s1", new int[][] {{1, 1, 1, 1, 1}, {0, 1, 1, 1, 1}, {0, 0, 1, 1, 1}, {0, 0, 0, 0, 1},
            {0, 0, 0, 0, 1}});
        leads("s1-;q1;-d1s1", new int[][] {{1, 1, 0, 0, 0}, {0, 1, 0, 0, 0}, {0, 0, 1, 1, 1}, {0, 0, 0, 0, 1},
            {0, 0, 0, 0, 1}});
        leads("s1q1d1s1", new int[][] {{1, 1, 1, 1, 0}, {0, 0, 0, 0, 1}, {0, 0, 0, 0, 1}, {0, 0, 0, 0, 1},
            {0, 0, 0, 0, 1}});
    }

    static void promise7UnknownIfOneIsNotThere() {
        leads("s1", new int[][] {{1, -1, -1, -1, 0}, {0, -1, -1, -1, 1}, {-1, -1, -1, -1, -1}, {-1, -1, -1, -1, -1},
            {-1, -1, -1, -1, -1}});
        leads("s1;q1;-", new int[][] {{1, 0, -1, -1, 0}, {0, 1, -1, -1, 0}, {0, 0, -1, -1, 1}, {-1, -1, -1, -1, -1},
            {-1, -1, -1, -1, -1}});
        leads("s1;q1d1", new int[][] {{1, 0, 0, -1, 0}, {0, 1, 1, -1, 0}, {0, 0, 0, -1, 1}, {0, 0, 0, -1, 1},
            {-1, -1, -1, -1, -1}});
    }

    static void promise7UnknownChangesNothing() {
        Edges.refusedAnywhere("leads(0, 4)", x -> x.leads(0, 4), UNKNOWN);
        Edges.refusedAnywhere("leads(4, 5)", x -> x.leads(4, 5), UNKNOWN);
    }

    static void promise7OutsideFrom() {
        for (int from : new int[] {-1, 5, 6, Edges.MIN, Edges.MAX}) {
            Edges.refusedAnywhere("leads(" + from + ", 1)", x -> x.leads(from, 1), OUTSIDE);
            Edges.refusedAnywhere("leads(" + from + ", 5)", x -> x.leads(from, 5), OUTSIDE);
        }
    }

    static void promise7OutsideTo() {
        for (int to : new int[] {0, -1, 6, 7, Edges.MIN, Edges.MAX}) {
            Edges.refusedAnywhere("leads(0, " + to + ")", x -> x.leads(0, to), OUTSIDE);
            Edges.refusedAnywhere("leads(1, " + to + ")", x -> x.leads(1, to), OUTSIDE);
        }
    }

    static void promise7WagonsAreLeftAside() {
        SidingOrders x = Edges.playing("s1;s1", 12, 12, 10);
        due("leads(0, 1), full", x.leads(0, 1), 1);
        due("leads(2, 5), empty", x.leads(2, 5), 1);
    }
}
