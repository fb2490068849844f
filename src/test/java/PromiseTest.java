/** Promise by promise: ordinary calls, the edges that the document names, and wrong ones. */
final class PromiseTest {
    private static final int UNKNOWN = -1, OUTSIDE = -2, STATE = -3, FULL = -4, NO = -5, NONE = -6;
    private static final int[] WRONG_TRAINS = {0, -1, -12, 2, 9, 10, 11, 13, 22, 102, 120, 124, 1123, 12346, 55555,
        123456, 54322, 112345, Integer.MAX_VALUE, Integer.MIN_VALUE};
    private static final int[] WRONG_SIZES = {0, -1, 6, 7, Integer.MAX_VALUE, Integer.MIN_VALUE};

    private PromiseTest() {
    }

    static void run() {
        constants();
        newObject();
        sayAndWipe();
        faultAndYard();
        sidingAndLeads();
        leastAndWays();
        first();
        orders();
        goodAndMean();
        need();
        keepAndUnlike();
        play();
        moveAndBack();
        twentyMoves();
        yardsChange();
        restAndNext();
        movesAndStand();
        thumbs();
        sortsAndDraw();
        images();
        told();
    }

    private static void due(String what, long got, long want) {
        Check.due(what, got, want);
    }

    private static void constants() {
        due("UNKNOWN", SidingOrders.UNKNOWN, UNKNOWN);
        due("OUTSIDE", SidingOrders.OUTSIDE, OUTSIDE);
        due("STATE", SidingOrders.STATE, STATE);
        due("FULL", SidingOrders.FULL, FULL);
        due("NO", SidingOrders.NO, NO);
        due("NONE", SidingOrders.NONE, NONE);
        due("LOST", SidingOrders.LOST, -1000000000000000000L);
    }

    /** Promise 1. */
    private static void newObject() {
        SidingOrders x = new SidingOrders();
        due("1 told(0)", x.told(0), 0);
        due("1 told(1)", x.told(1), 1);
        due("1 told(2)", x.told(2), 1);
        due("1 told(3)", x.told(3), NONE);
        due("1 told(4)", x.told(4), 1);
        due("1 siding(0, 0)", x.siding(0, 0), 's');
        due("1 siding(0, 1)", x.siding(0, 1), 5);
        due("1 siding(0, 2)", x.siding(0, 2), 0);
        due("1 unlike(5)", x.unlike(5), NONE);
        due("1 restore(0)", x.restore(0), STATE);
        due("1 restore(1)", x.restore(1), STATE);
    }

    /** Promises 2 and 3. */
    private static void sayAndWipe() {
        SidingOrders x = new SidingOrders();
        for (int sign : new int[] {32, 127, 0, -1, 1000, Integer.MAX_VALUE, Integer.MIN_VALUE}) {
            due("2 say(" + sign + ")", x.say(sign), OUTSIDE);
        }
        due("3 wipe() of nothing", x.wipe(), 0);
        for (int i = 1; i <= 16; i++) {
            due("2 say, " + i, x.say(i % 2 == 0 ? 33 : 126), i);
        }
        due("2 say, 17", x.say('s'), FULL);
        due("2 say, 17, outside", x.say(127), OUTSIDE);
        due("2 told(0)", x.told(0), 16);
        due("3 wipe()", x.wipe(), 16);
        due("3 told(0)", x.told(0), 0);
        due("3 fault()", x.fault(), 0);
        due("2 say, anew", x.say('s'), 1);
        due("3 the YARD stays", x.told(1), 1);
    }

    /** Promises 4 and 5. */
    private static void faultAndYard() {
        fault("", 0);
        fault("s", 1);
        fault("s0", 1);
        fault("s6", 1);
        fault("ss", 1);
        fault("s;", 1);
        fault("s1", NONE);
        fault("s5", NONE);
        fault("q1d2", NONE);
        fault("s1;", 3);
        fault(";s1", 0);
        fault("1", 0);
        fault("x5", 0);
        fault("S5", 0);
        fault("s12", 2);
        fault("-", 1);
        fault("--", 1);
        fault("-s1-", 3);
        fault("-s1", NONE);
        fault("s1-", NONE);
        fault("s1-q2", NONE);
        fault("-;-", 3);
        fault("-;-;-", 5);
        fault("-;-;-;", 5);
        fault("-;-;s1", NONE);
        fault("s1;-;-", NONE);
        fault("s1;;", 3);
        fault("s1;q1;d1", NONE);
        fault("s1;q1;d1;", 8);
        fault("s1;q1;d1;s1", 8);
        fault("s1s1s1s1", NONE);
        fault("s1s1s1s1s", 8);
        fault("s1s1s1s1;s1", 9);
        fault("s1s1s1s1;", 9);
        fault("s1s1s1s1;-", NONE);
        fault("s1s1s1s1;-;-", NONE);
        fault("s1-s1;s1-;-d5", NONE);
        fault("s1 ", 2);
        fault("s1-s1;s1-;-d5xyz", 13);
        SidingOrders x = new SidingOrders();
        x.play(12, 12);
        due("5 yard() of nothing", x.yard(), NO);
        Check.say(x, "d3;q");
        due("5 yard() with a FAULT", x.yard(), NO);
        due("5 the signs stay", x.told(0), 4);
        due("5 the PLAY stays", x.told(3), 0);
        due("5 the YARD stays", x.siding(0, 1), 5);
        x.say('2');
        due("5 yard()", x.yard(), 2);
        due("5 the signs are gone", x.told(0), 0);
        due("5 the PLAY is gone", x.told(3), NONE);
        due("5 THE OTHER YARD stays", x.told(4), 1);
        due("5 stages", x.told(2), 2);
        due("5 siding(1, 1)", x.siding(1, 1), 2);
    }

    private static void fault(String text, int want) {
        SidingOrders x = new SidingOrders();
        for (int i = 0; i < text.length(); i++) {
            // Blanks are no signs: they are left out.
            x.say(text.charAt(i));
        }
        boolean blank = text.indexOf(' ') >= 0;
        due("4 fault() of " + text, x.fault(), blank ? NONE : want);
        due("4 told(0) of " + text, x.told(0), Math.min(16, text.trim().length()));
    }

    /** Promises 6 and 7. */
    private static void sidingAndLeads() {
        SidingOrders x = Check.on("-s2;q3-;d4s1");
        int[][] want = {{'s', 2, 0}, {'q', 3, 1}, {'d', 4, 2}, {'s', 1, 2}};
        for (int i = 0; i < 4; i++) {
            for (int what = 0; what < 3; what++) {
                due("6 siding(" + i + ", " + what + ")", x.siding(i, what), want[i][what]);
            }
        }
        due("6 siding(0, 3)", x.siding(0, 3), OUTSIDE);
        due("6 siding(0, -1)", x.siding(0, -1), OUTSIDE);
        due("6 siding(4, 0)", x.siding(4, 0), UNKNOWN);
        due("6 siding(-1, 9)", x.siding(-1, 9), UNKNOWN);
        int[][] leads = {{1, 1, 1, 1, 0}, {0, 1, 1, 1, 0}, {0, 0, 1, 1, 0}, {0, 0, 0, 0, 1}, {0, 0, 0, 0, 1}};
        for (int from = 0; from < 5; from++) {
            for (int to = 1; to < 6; to++) {
                due("7 leads(" + from + ", " + to + ")", x.leads(from, to), leads[from][to - 1]);
            }
        }
        due("7 leads(5, 5)", x.leads(5, 5), OUTSIDE);
        due("7 leads(0, 0)", x.leads(0, 0), OUTSIDE);
        due("7 leads(-1, 1)", x.leads(-1, 1), OUTSIDE);
        due("7 leads(0, 6)", x.leads(0, 6), OUTSIDE);
        Check.lay(x, "-q5");
        due("7 leads(0, 5) by a -", x.leads(0, 5), 1);
        due("7 leads(0, 2)", x.leads(0, 2), UNKNOWN);
        due("7 leads(2, 5)", x.leads(2, 5), UNKNOWN);
        due("7 leads(9, 4)", x.leads(9, 4), UNKNOWN);
        due("7 leads(4, 9)", x.leads(4, 9), UNKNOWN);
        due("7 leads(9, 1)", x.leads(9, 1), OUTSIDE);
        Check.lay(x, "s1;-;-");
        due("7 leads(0, 5) through a SIDING alone", x.leads(0, 5), 0);
        due("7 leads(1, 5) by two -", x.leads(1, 5), 1);
    }

    /** Promises 8 and 9. */
    private static void leastAndWays() {
        SidingOrders x = new SidingOrders();
        due("8 one wagon", x.least(1, 1), 2);
        due("9 one wagon", x.ways(1, 1), 1);
        due("8 reversed", x.least(54321, 12345), 10);
        due("9 reversed", x.ways(54321, 12345), 1);
        due("8 not to be had", x.least(123, 312), NONE);
        due("9 not to be had", x.ways(123, 312), 0);
        due("8 relative", x.least(312, 231), NONE);
        refuseTrains(x);
        Check.lay(x, "s1");
        due("8 too short", x.least(12, 21), NONE);
        due("8 one by one", x.least(12, 12), 4);
        Check.lay(x, "d5");
        due("9 a d with one wagon", x.ways(1, 1), 4);
        // One by one 4 times 4; both in, 2 at either end of 1 at either: 2 times 2, and 2 goes out last by either.
        due("9 a d with two", x.ways(12, 12), 16 + 8);
        Check.lay(x, "q2-");
        due("8 by the -", x.least(12, 12), 2);
        due("8 one waits", x.least(12, 21), 3);
        due("9 one waits", x.ways(12, 21), 1);
        Check.lay(x, "s1;q1-;d2");
        due("8 through stages", x.least(1, 1), 3);
        due("9 through stages", x.ways(1, 1), 4);
    }

    private static void refuseTrains(SidingOrders x) {
        for (int wrong : WRONG_TRAINS) {
            due("8 least(" + wrong + ", 1)", x.least(wrong, 1), OUTSIDE);
            due("8 least(12, " + wrong + ")", x.least(12, wrong), OUTSIDE);
            due("9 ways(" + wrong + ", " + wrong + ")", x.ways(wrong, wrong), OUTSIDE);
            due("9 ways(1, " + wrong + ")", x.ways(1, wrong), OUTSIDE);
            due("10 first(" + wrong + ", 1, -1)", x.first(wrong, 1, -1), OUTSIDE);
            due("10 first(1, " + wrong + ", 0)", x.first(1, wrong, 0), OUTSIDE);
            due("11 orders(" + wrong + ", -2)", x.orders(wrong, -2), OUTSIDE);
            due("14 need(" + wrong + ", 0)", x.need(wrong, 0), OUTSIDE);
            due("17 play(" + wrong + ", 1)", x.play(wrong, 1), OUTSIDE);
            due("17 play(1, " + wrong + ")", x.play(1, wrong), OUTSIDE);
            due("24 thumb(" + wrong + ", 0)", x.thumb(wrong, 0), OUTSIDE);
        }
        due("8 other sizes", x.least(12, 123), OUTSIDE);
        due("9 other sizes", x.ways(123, 12), OUTSIDE);
        due("10 other sizes", x.first(1, 12, 0), OUTSIDE);
        due("17 other sizes", x.play(1, 12), OUTSIDE);
        due("17 no PLAY yet", x.told(3), NONE);
    }

    /** Promise 10. */
    private static void first() {
        SidingOrders x = Check.on("d5d5");
        int[] turned = {10, 10, 1050, 1050};
        // 1 goes out by the FAR end from behind 2: 10, 1050, 10, 1050 has the higher second MOVE.
        int[] same = {10, 10, 1150, 1050};
        for (int i = -2; i < 6; i++) {
            boolean inside = i >= 0 && i < 4;
            due("10 first(12, 21, " + i + ")", x.first(12, 21, i), inside ? turned[i] : NONE);
            due("10 first(12, 12, " + i + ")", x.first(12, 12, i), inside ? same[i] : NONE);
        }
        due("10 far beyond", x.first(12, 12, Integer.MAX_VALUE), NONE);
        Check.lay(x, "s1;s1");
        due("10 does not come out", x.first(123, 321, 0), NONE);
        Check.lay(x, "-q1");
        due("10 by the -", x.first(21, 12, 0), 10);
        due("10 by the -, 1", x.first(21, 12, 1), 50);
        due("10 out of a q", x.first(21, 12, 2), 1150);
        due("10 no more", x.first(21, 12, 3), NONE);
    }

    /** Promise 11. */
    private static void orders() {
        SidingOrders x = new SidingOrders();
        due("11 orders(123, -1)", x.orders(123, -1), 5);
        int[] want = {123, 132, 213, 231, 321};
        for (int k = 0; k < 5; k++) {
            due("11 orders(123, " + k + ")", x.orders(123, k), want[k]);
        }
        due("11 beyond", x.orders(123, 5), NONE);
        due("11 below", x.orders(123, -2), NONE);
        due("11 far below", x.orders(123, Integer.MIN_VALUE), NONE);
        due("11 far beyond", x.orders(123, Integer.MAX_VALUE), NONE);
        Check.lay(x, "q5");
        due("11 a q alone turns nothing", x.orders(31524, -1), 1);
        due("11 the same ORDER", x.orders(31524, 0), 31524);
        due("11 one wagon", x.orders(1, 0), 1);
    }

    /** Promises 12 and 13. */
    private static void goodAndMean() {
        SidingOrders x = new SidingOrders();
        int[] catalan = {1, 2, 5, 14, 42};
        for (int n = 1; n <= 5; n++) {
            due("12 good(" + n + ", 0)", x.good(n, 0), catalan[n - 1]);
            due("13 mean(" + n + ", 0)", x.mean(n, 0), 2 * n);
            due("13 mean(" + n + ", 1)", x.mean(n, 1), 1);
        }
        due("12 all are GOOD", x.good(2, 1), NONE);
        due("12 BAD", x.good(3, 1), 231);
        for (int n : WRONG_SIZES) {
            due("12 good(" + n + ", 0)", x.good(n, 0), OUTSIDE);
            due("13 mean(" + n + ", 0)", x.mean(n, 0), SidingOrders.LOST - 2);
            due("16 unlike(" + n + ")", x.unlike(n), OUTSIDE);
            due("25 sorts(" + n + ", 0)", x.sorts(n, 0), OUTSIDE);
            due("26 draw(0, " + n + ")", x.draw(0, n), OUTSIDE);
        }
        due("12 good(1, 2)", x.good(1, 2), OUTSIDE);
        due("12 good(1, -1)", x.good(1, -1), OUTSIDE);
        due("13 mean(1, 2)", x.mean(1, 2), SidingOrders.LOST - 2);
        due("13 mean(1, -1)", x.mean(1, -1), SidingOrders.LOST - 2);
        Check.lay(x, "-s1");
        // 12 by 2 MOVES, 21 by 3: the mean is 5 by 2.
        due("13 upper", x.mean(2, 0), 5);
        due("13 lower", x.mean(2, 1), 2);
        // 123: 3, 132, 213, 312 (3 into the s, 1, 2, 3): 4 each; 231 and 321 can not.
        due("12 good(3, 0) with a -", x.good(3, 0), 4);
        due("13 upper of 3", x.mean(3, 0), 15);
        due("13 lower of 3", x.mean(3, 1), 4);
    }

    /** Promise 14. */
    private static void need() {
        SidingOrders x = Check.on("s3s3");
        due("14 sum", x.need(321, -1), 3);
        due("14 SIDING 0 the least first", x.need(321, 0), 1);
        due("14 SIDING 1", x.need(321, 1), 2);
        due("14 UNKNOWN", x.need(321, 2), UNKNOWN);
        due("14 UNKNOWN below", x.need(321, -2), UNKNOWN);
        due("14 UNKNOWN before OUTSIDE", x.need(0, 2), UNKNOWN);
        due("14 another TRAIN", x.need(123, -1), 2);
        Check.lay(x, "s3;s3");
        due("14 another YARD, the sum", x.need(321, -1), 4);
        due("14 another YARD, SIDING 0", x.need(321, 0), 1);
        due("14 another YARD, SIDING 1", x.need(321, 1), 3);
        Check.lay(x, "s1");
        due("14 NO", x.need(21, 0), NO);
        due("14 NO, the sum", x.need(21, -1), NO);
        due("14 one", x.need(12, -1), 1);
        Check.lay(x, "q4s1");
        x.image(0);
        due("14 before", x.need(231, -1), 3);
        Check.lay(x, "s5");
        due("14 between", x.need(231, -1), NO);
        due("14 between, another", x.need(4123, -1), 2);
        x.restore(0);
        due("14 after restore()", x.need(231, -1), 3);
        due("14 after restore(), SIDING 0", x.need(231, 0), 2);
        due("14 after restore(), another", x.need(4123, 0), 1);
    }

    /** Promises 15 and 16. */
    private static void keepAndUnlike() {
        SidingOrders x = Check.on("s1s1s1");
        due("16 against s5", x.unlike(3), 231);
        due("16 ALIKE", x.unlike(2), NONE);
        due("16 ALIKE, one wagon", x.unlike(1), NONE);
        due("15 keep()", x.keep(), 3);
        due("15 told(4)", x.told(4), 3);
        due("16 against itself", x.unlike(5), NONE);
        Check.lay(x, "q1q1q1");
        due("15 it stays", x.told(4), 3);
        due("16 letters at LENGTH 1", x.unlike(4), NONE);
        x.keep();
        Check.lay(x, "s5");
        due("16 the other way round", x.unlike(3), 231);
        due("16 good(3, 0)", x.good(3, 0), 5);
        due("15 keep(), again", x.keep(), 1);
        due("16 alike again", x.unlike(3), NONE);
    }

    /** Promise 17. */
    private static void play() {
        SidingOrders x = new SidingOrders();
        due("17 play", x.play(231, 132), 6);
        due("17 told(3)", x.told(3), 0);
        x.move(10);
        due("17 a move", x.told(3), 1);
        due("17 refused", x.play(231, 1), OUTSIDE);
        due("17 refused, nothing changes", x.told(3), 1);
        due("17 begins anew", x.play(12, 21), 4);
        due("17 no MOVES done", x.told(3), 0);
        due("17 ENTRY", x.stand(0), 12);
        due("17 NONE", x.play(231, 123), NONE);
        due("17 the PLAY begins all the same", x.stand(0), 231);
        due("17 STUCK from the beginning", x.rest(), NONE);
        due("17 a MOVE can be done", x.move(10), 1);
    }

    /** Promises 18 and 19. */
    private static void moveAndBack() {
        SidingOrders x = new SidingOrders();
        due("18 no PLAY", x.move(10), STATE);
        due("19 no PLAY", x.back(), STATE);
        Check.lay(x, "q2;s1");
        x.play(213, 213);
        for (int move : new int[] {0, 1, 11, 20, 50, 110, 1120, 1020, 2050, -10, 5050, 10010, Integer.MAX_VALUE,
            Integer.MIN_VALUE}) {
            due("18 move(" + move + ")", x.move(move), NO);
        }
        due("19 none yet", x.back(), NO);
        due("18 in", x.move(10), 1);
        due("18 in again", x.move(10), 2);
        due("18 it is full", x.move(10), NO);
        due("18 a q gives at the FAR end alone", x.move(1020), NO);
        due("18 on", x.move(1120), 3);
        due("18 the s is full", x.move(1120), NO);
        due("18 out", x.move(2050), 4);
        due("18 out, the first", x.stand(5), 2);
        due("19 back", x.back(), 3);
        due("19 back", x.back(), 2);
        due("19 the q as it was", x.stand(1), 12);
        due("19 back", x.back(), 1);
        due("19 back", x.back(), 0);
        due("19 ENTRY", x.stand(0), 213);
        due("19 no more", x.back(), NO);
    }

    /** Promises 10, 18 and 19: the longest rows. */
    private static void twentyMoves() {
        SidingOrders x = Check.on("s5;s5;s5");
        due("8 twenty", x.least(12345, 54321), 20);
        due("10 the last of twenty", x.first(12345, 54321, 19), 3050);
        due("10 behind the last", x.first(12345, 54321, 20), NONE);
        due("17 twenty", x.play(12345, 54321), 20);
        for (int i = 0; i < 20; i++) {
            due("20 rest() after " + i, x.rest(), 20 - i);
            due("10 first(12345, 54321, " + i + ")", x.first(12345, 54321, i), x.next());
            due("18 move, " + i, x.move(x.next()), i + 1);
        }
        due("18 nothing is left", x.move(3050), NO);
        due("23 all out", x.stand(5), 54321);
        x.image(0);
        for (int i = 19; i >= 0; i--) {
            due("19 back, " + i, x.back(), i);
        }
        due("23 ENTRY", x.stand(0), 12345);
        x.restore(0);
        due("19 back after restore()", x.back(), 19);
        due("23 the last one", x.stand(3), 1);
    }

    /** Promises 5, 14, 20 and 21: what was found for one YARD does not answer for another. */
    private static void yardsChange() {
        SidingOrders x = new SidingOrders();
        due("5 need before", x.need(321, 0), 3);
        due("5 play before", x.play(123, 312), NONE);
        due("5 rest before", x.rest(), NONE);
        due("5 ways before", x.ways(123, 321), 1);
        Check.lay(x, "q5-");
        due("5 need after", x.need(321, 0), NO);
        due("5 ways after", x.ways(123, 321), 0);
        Check.lay(x, "s5s5");
        due("5 need", x.need(321, 0), 1);
        due("5 play after", x.play(123, 312), 6);
        due("5 rest after", x.rest(), 6);
        due("5 first after", x.first(123, 312, 0), 10);
        x.image(0);
        Check.lay(x, "s5");
        due("28 need before", x.need(321, 0), 3);
        x.play(123, 312);
        due("28 rest before", x.rest(), NONE);
        x.restore(0);
        due("28 need after", x.need(321, 0), 1);
        due("28 rest after", x.rest(), 6);
    }

    /** Promises 20 and 21. */
    private static void restAndNext() {
        SidingOrders x = new SidingOrders();
        due("20 no PLAY", x.rest(), STATE);
        due("21 no PLAY", x.next(), STATE);
        x.play(12, 12);
        due("20 at first", x.rest(), 4);
        due("21 at first", x.next(), 10);
        x.move(10);
        x.move(10);
        due("20 STUCK", x.rest(), NONE);
        due("21 STUCK", x.next(), NONE);
        x.move(1050);
        due("20 astray", x.rest(), NONE);
        x.back();
        x.back();
        due("20 not any more", x.rest(), 3);
        due("21 not any more", x.next(), 1050);
        x.least(12, 21);
        x.first(12, 21, 0);
        x.need(12, 0);
        due("21 other calls between", x.next(), 1050);
        x.move(1050);
        x.move(10);
        x.move(1050);
        due("20 done", x.rest(), 0);
        due("21 done", x.next(), NONE);
        x.play(12, 21);
        x.move(10);
        due("20 another ORDER", x.rest(), 3);
        due("21 another ORDER", x.next(), 10);
    }

    /** Promises 22 and 23. */
    private static void movesAndStand() {
        SidingOrders x = new SidingOrders();
        due("22 no PLAY", x.moves(-1), STATE);
        due("22 no PLAY, below", x.moves(-9), STATE);
        due("23 no PLAY", x.stand(1), STATE);
        due("23 no PLAY, UNKNOWN", x.stand(2), UNKNOWN);
        due("23 no PLAY, OUTSIDE", x.stand(6), OUTSIDE);
        Check.lay(x, "d2-;q1");
        x.play(3142, 1234);
        due("22 how many", x.moves(-1), 3);
        due("22 0", x.moves(0), 10);
        due("22 1", x.moves(1), 11);
        due("22 2", x.moves(2), 20);
        due("22 3", x.moves(3), NONE);
        due("22 below", x.moves(-2), NONE);
        x.move(10);
        x.move(11);
        due("23 from the NEAR end on", x.stand(1), 31);
        due("23 ENTRY", x.stand(0), 42);
        due("23 empty", x.stand(2), 0);
        due("23 EXIT", x.stand(5), 0);
        due("23 UNKNOWN", x.stand(3), UNKNOWN);
        due("23 OUTSIDE", x.stand(-1), OUTSIDE);
        due("23 OUTSIDE", x.stand(6), OUTSIDE);
        due("22 how many now", x.moves(-1), 3);
        due("22 0 now", x.moves(0), 20);
        due("22 1 now", x.moves(1), 1020);
        due("22 2 now", x.moves(2), 1120);
        x.move(1120);
        x.move(2150);
        x.move(1020);
        x.move(2150);
        due("23 out one behind another", x.stand(5), 13);
        x.move(20);
        x.move(2150);
        x.move(20);
        x.move(2150);
        due("23 all out", x.stand(5), 1342);
        due("22 nothing can be done", x.moves(-1), 0);
        due("22 nothing", x.moves(0), NONE);
    }

    /** Promise 24. */
    private static void thumbs() {
        SidingOrders x = Check.on("s2s2");
        // THUMB 0: 2 and 4 into SIDING 0, 3 and 1 into 1; 1 goes out, and 2 lies under 4.
        due("24 the first with room", x.thumb(2431, 0), 1);
        due("24 rule 3", x.thumb(1, 3), OUTSIDE);
        due("24 rule -1", x.thumb(1, -1), OUTSIDE);
        Check.lay(x, "s3s3");
        // 2, 4 and 3 by THUMB 1: 2; 4 to SIDING 1; 3 onto 4; 1 out by either.
        due("24 all higher", x.thumb(2431, 1), 4);
        // THUMB 2: 2 to 0, 4 to 1, 3 to 0 (as few, the first), 1 to 1: 1 goes, 2 lies under 3.
        due("24 the fewest", x.thumb(2431, 2), 1);
        Check.lay(x, "d2;s2");
        // 2 and 1 into the d, 1 above; nothing is wanted at the EXIT yet; 1 goes on, then out, then 2.
        due("24 onward", x.thumb(21, 0), 2);
        due("24 onward, 2 lies above 1 and goes on first", x.thumb(12, 0), 2);
        Check.lay(x, "d2;s1");
        due("24 onward, 2 takes the room", x.thumb(12, 0), 0);
        Check.lay(x, "-s1");
        due("24 right out", x.thumb(12345, 0), 5);
        due("24 no room", x.thumb(231, 0), 0);
        Check.lay(x, "s1s1;s1");
        due("24 none such", x.thumb(1, 1), 1);
    }

    /** Promises 25 and 26. */
    private static void sortsAndDraw() {
        SidingOrders x = new SidingOrders();
        for (int rule = 0; rule < 3; rule++) {
            due("25 sorts(1, " + rule + ")", x.sorts(1, rule), 1);
            due("25 sorts(5, " + rule + ")", x.sorts(5, rule), 42);
        }
        due("25 rule 3", x.sorts(1, 3), OUTSIDE);
        due("25 rule -1", x.sorts(1, -1), OUTSIDE);
        due("26 draw(0, 1)", x.draw(0, 1), 1);
        // 74, 5624: 74 leaves over 0 by 2.
        due("26 draw(0, 2)", x.draw(0, 2), 12);
        // 149: 1 by 2.
        due("26 draw(1, 2)", x.draw(1, 2), 21);
        // 149 (2 by 3), 11249 (1 by 2).
        due("26 draw(1, 3)", x.draw(1, 3), 321);
        due("26 draw(-1, 3)", x.draw(-1, 3), OUTSIDE);
        due("26 draw(10000, 3)", x.draw(10000, 3), OUTSIDE);
        due("26 draw(9999, 1)", x.draw(9999, 1), 1);
        for (int seed = 0; seed <= 9999; seed += 37) {
            long state = seed;
            java.util.ArrayList<Integer> left = new java.util.ArrayList<>(java.util.List.of(1, 2, 3, 4, 5));
            int want = 0;
            while (!left.isEmpty()) {
                state = (state * 75 + 74) % 65537;
                want = 10 * want + left.remove((int) (state % left.size()));
            }
            due("26 draw(" + seed + ", 5)", x.draw(seed, 5), want);
        }
    }

    /** Promises 27 and 28. */
    private static void images() {
        SidingOrders x = Check.on("q2s2");
        for (int n : new int[] {-1, 2, Integer.MAX_VALUE, Integer.MIN_VALUE}) {
            due("27 image(" + n + ")", x.image(n), OUTSIDE);
            due("28 restore(" + n + ")", x.restore(n), OUTSIDE);
        }
        due("28 it was not", x.restore(1), STATE);
        due("27 without a PLAY", x.image(1), 1);
        x.keep();
        x.play(312, 123);
        x.move(10);
        x.move(20);
        due("27 with a PLAY", x.image(0), 1);
        int good = x.good(4, 0);
        x.move(20);
        Check.lay(x, "d1");
        x.keep();
        Check.say(x, "s1;");
        due("28 restore(0)", x.restore(0), 1);
        due("28 the signs stay", x.told(0), 3);
        due("28 MOVES done", x.told(3), 2);
        due("28 SIDINGS", x.told(1), 2);
        due("28 THE OTHER", x.told(4), 2);
        due("28 letters", x.siding(0, 0) * 1000 + x.siding(1, 0), 'q' * 1000 + 's');
        due("28 ENTRY", x.stand(0), 2);
        due("28 SIDING 0", x.stand(1), 3);
        due("28 rest()", x.rest(), 4);
        due("28 good(4, 0)", x.good(4, 0), good);
        due("28 unlike(4)", x.unlike(4), NONE);
        due("28 back()", x.back(), 1);
        due("28 back()", x.back(), 0);
        due("28 restore(1)", x.restore(1), 1);
        due("28 no PLAY", x.told(3), NONE);
        due("28 THE OTHER was s5", x.told(4), 1);
        due("28 restore(0), again", x.restore(0), 1);
        due("28 the IMAGE stays as it was", x.told(3), 2);
        x.image(1);
        x.back();
        x.restore(1);
        due("27 kept anew", x.told(3), 2);
    }

    /** Promise 29. */
    private static void told() {
        SidingOrders x = Check.on("s1-;-;q1d1");
        Check.say(x, "s1");
        due("29 told(0)", x.told(0), 2);
        due("29 told(1)", x.told(1), 3);
        due("29 told(2)", x.told(2), 3);
        due("29 told(3)", x.told(3), NONE);
        due("29 told(4)", x.told(4), 1);
        due("29 told(5)", x.told(5), OUTSIDE);
        due("29 told(-1)", x.told(-1), OUTSIDE);
        x.play(1, 1);
        due("29 told(3)", x.told(3), 0);
        x.move(10);
        due("29 told(3)", x.told(3), 1);
    }
}
