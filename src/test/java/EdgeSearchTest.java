/** The edges of promises 23 to 26 and 29 to 32: orders, spots, calm, nerves, turns, what fits, failing tricks. */
public final class EdgeSearchTest {
    private static final Check C = new Check("EdgeSearchTest");
    private static final int NONE = Check.NONE, BAD = Check.BAD, STATE = Check.STATE;
    private static final int NULL = Check.NULL, PLACE = Check.PLACE, MIN = Check.MIN, MAX = Check.MAX;
    /** Car 0 is in cell 0 behind tick 1, screams in cell 1 behind 2, is in 1, 2, 3 behind 3, 4, 5, and out behind 6. */
    private static final String ONE = "g4;s1,5;c1,5,1;";
    private static final String QUICK = "g4;s0,1;c1,60,3;c1,60,3;c1,60,3;c1,60,3;c1,60,3;c1,60,3;";
    private static final String FIVE = "g4;s0,1;s1,1;s2,1;s3,1;s3,1;c1,5,1;";
    private static final int[] NOT_1_TO_50 = {0, -1, 51, MIN, MAX}, NOT_0_OR_1 = {-1, 2, MIN, MAX};

    public static void main(String[] args) {
        Edge.runAll(EdgeSearchTest.class, C);
    }

    private static Edge of(String text) {
        return Edge.of(C, text);
    }

    // ---- order

    private static void dueOrder(Edge e, int n, int screams, int... cars) {
        e.foretold(screams, "order", n, -1);
        for (int k = 0; k < cars.length; k++) {
            e.foretold(cars[k], "order", n, k);
        }
        e.foretold(NONE, "order", n, cars.length);
    }

    static void promise23TicksGoFrom1To50() {
        Edge e = of(ONE).foretold(0, "order", 1, -1).foretold(1, "order", 2, -1).foretold(1, "order", 50, -1);
        for (int n : NOT_1_TO_50) {
            e.refused(BAD, "order", n, -1).refused(BAD, "order", n, 0);
        }
    }

    static void promise23CarsGoFromMinus1OnAndThenNone() {
        Edge e = of(ONE).foretold(1, "order", 9, -1).foretold(0, "order", 9, 0).foretold(NONE, "order", 9, 1);
        e.foretold(NONE, "order", 9, 6).foretold(NONE, "order", 9, MAX);
        e.refused(BAD, "order", 9, -2).refused(BAD, "order", 9, MIN);
        of(QUICK).foretold(5, "order", 9, 5).foretold(NONE, "order", 9, 6).refused(BAD, "order", 9, -2);
    }

    static void promise23BadIsAheadOfNone() {
        of(ONE).refused(BAD, "order", 0, 9).refused(BAD, "order", 51, 9);
    }

    static void promise23WithoutATrainStateIsAheadOfBad() {
        Edge e = new Edge(C).refused(STATE, "order", 1, -1).refused(STATE, "order", 0, -1);
        e.refused(STATE, "order", 51, 0).refused(STATE, "order", 1, -2).refused(STATE, "order", 1, 9);
    }

    static void promise23MostScreamsThenMostOutThenTheFirst() {
        // by a hand the first is frightened twice as much
        dueOrder(of("g4;h0,5;c1,11,1;c1,10,1;"), 3, 1, 1, 0);
        dueOrder(of("g4;h0,5;c1,10,1;c1,10,1;"), 3, 1, 0, 1);
        dueOrder(of("g4;h0,5;c1,60,3;c1,10,1;"), 3, 1, 1, 0);
        dueOrder(of("g4;s0,1;c1,60,1;c1,60,3;"), 3, 0, 1, 0);
        dueOrder(of("g4;s0,1;c1,60,1;c1,60,3;"), 2, 0, 0, 1);
        dueOrder(of("g4;s0,1;c1,60,1;c1,60,3;c1,60,3;"), 4, 0, 1, 2, 0);
        dueOrder(of("g4;s0,1;c1,60,3;c1,60,3;c1,60,3;"), 50, 0, 0, 1, 2);
    }

    static void promise23TheFirstOrderByWhichTheLastGoesFirst() {
        // the hand frightens who comes first by 2: enough for car 5 alone
        Edge e = of("g4;h0,1;c1,3,1;c1,3,1;c1,3,1;c1,3,1;c1,3,1;c1,2,1;");
        dueOrder(e, 1, 1, 5, 0, 1, 2, 3, 4);
    }

    static void promise23TheLastOrderOfAll() {
        // found by trying many trains: by no other order are there six screams and as many out
        Edge e = of("g6;s3,2;s1,4;o3,2;c3,17,1;c3,2,1;c2,11,3;c4,11,2;c3,3,1;c2,8,1;");
        dueOrder(e, 11, 6, 5, 4, 3, 2, 1, 0);
    }

    static void promise23NoneWaits() {
        dueOrder(of(QUICK).then("ticks", 8), 50, 0, 0, 1, 2, 3, 4, 5);
        dueOrder(of(ONE).then("ticks", 2), 50, 1, 0);
    }

    static void promise23OnlyThoseThatWaitGoInAnotherOrder() {
        Edge e = of("g4;s0,1;c1,60,1;c1,60,1;c1,60,3;").then("ticks", 1);
        dueOrder(e, 4, 0, 0, 2, 1);
    }

    static void promise23WhateverChangesTheTrain() {
        // it may be kept from call to call, but not when anything has changed
        Edge e = of("g4;h0,5;c1,11,1;c1,10,1;").due(1, "order", 3, 0).due(11, "nerve", 0, 10).due(0, "order", 3, 0);
        e.due(0, "undo").due(1, "order", 3, 0).due(0, "flip", 0).due(0, "order", 3, -1).due(0, "undo");
        e.due(1, "order", 3, -1).due(1, "image", 0).due(0, "place", 0, 1).due(0, "order", 1, -1);
        e.due(1, "restore", 0).due(1, "order", 1, -1).due(0, "order", 1, 1).due(0, "ticks", 2);
        e.due(0, "order", 1, 0).reads("g4;s3,5;c1,11,1;c1,10,1;").due(0, "order", 1, -1);
    }

    // ---- spot

    static void promise24TicksGoFrom1To50() {
        Edge e = of("g4;s3,5;c1,5,1;").foretold(1, "spot", 0, 1, 1).foretold(1, "spot", 0, 50, 1);
        for (int n : NOT_1_TO_50) {
            e.refused(BAD, "spot", 0, n, 0);
        }
    }

    static void promise24TricksGoFrom0ToTheLast() {
        Edge e = of(FIVE).foretold(0, "spot", 0, 3, 1).foretold(1, "spot", 0, 4, 1).foretold(1, "spot", 4, 50, 1);
        for (int trick : new int[] {-1, 5, MIN, MAX}) {
            e.refused(BAD, "spot", trick, 1, 0);
        }
        of(ONE).foretold(0, "spot", 0, 1, 0).refused(BAD, "spot", 1, 1, 0);
    }

    static void promise24WhatIs0Or1() {
        Edge e = of("g4;s0,5;c1,5,1;").then("ticks", 3).foretold(2, "spot", 0, 1, 0).foretold(2, "spot", 0, 1, 1);
        for (int what : NOT_0_OR_1) {
            e.refused(BAD, "spot", 0, 1, what);
        }
    }

    static void promise24TheFirstCellAndTheLast() {
        Edge e = of("g4;s3,5;c1,5,1;").foretold(0, "spot", 0, 1, 0).then("ticks", 3).foretold(3, "spot", 0, 1, 0);
        Edge f = of("g12;s0,5;c1,5,1;").then("place", 0, 11).then("ticks", 11).foretold(11, "spot", 0, 1, 0);
        f.foretold(1, "spot", 0, 1, 1);
    }

    static void promise24NoCellBeyondTheLast() {
        // found by trying many trains: there are more screams without the trick, but it must be in a cell
        Edge e = of("g4;b0,1;s3,3;h0,2;m2,1;m1,3;c2,6,2;c2,7,3;c2,4,3;c2,6,3;");
        e.foretold(0, "spot", 4, 4, 0).foretold(2, "spot", 4, 4, 1).then("flip", 4).foretold(3, "show", 4, 1);
    }

    static void promise24OfSeveralTheLeast() {
        of("g4;s3,5;c1,5,1;").then("ticks", 2).foretold(2, "spot", 0, 2, 0).foretold(1, "spot", 0, 2, 1);
        of("g4;s3,5;c1,6,1;").foretold(0, "spot", 0, 50, 0).foretold(0, "spot", 0, 50, 1);
        of("g4;s3,5;c1,5,1;").then("flip", 0).foretold(0, "spot", 0, 50, 0).foretold(0, "spot", 0, 50, 1);
    }

    static void promise24ScreamsThatWereCount() {
        of("g4;s3,5;c1,5,1;").then("ticks", 4).foretold(0, "spot", 0, 50, 0).foretold(1, "spot", 0, 50, 1);
    }

    // ---- calm

    private static void dueCalm(Edge e, int n, int many, int which) {
        e.foretold(many, "calm", n, 0).foretold(which, "calm", n, 1);
    }

    static void promise25TicksGoFrom1To50() {
        Edge e = of(ONE);
        dueCalm(e, 1, 0, 0);
        dueCalm(e, 2, 1, 1);
        dueCalm(e, 50, 1, 1);
        for (int n : NOT_1_TO_50) {
            e.refused(BAD, "calm", n, 0).refused(BAD, "calm", n, 1);
        }
    }

    static void promise25WhatIs0Or1() {
        Edge e = of(ONE);
        for (int what : NOT_0_OR_1) {
            e.refused(BAD, "calm", 1, what);
        }
    }

    static void promise25FromNoneToAll() {
        dueCalm(of(FIVE).then("nerve", 0, 6), 50, 0, 0);
        dueCalm(of(FIVE), 50, 1, 1);
        dueCalm(of(FIVE).then("nerve", 0, 4), 50, 2, 3);
        dueCalm(of(FIVE).then("nerve", 0, 2), 50, 4, 15);
        dueCalm(of(FIVE).then("nerve", 0, 1), 50, 5, 31);
    }

    static void promise25NoneEvenIfAllAreOff() {
        Edge e = of("g4;s0,5;c1,9,1;").then("ticks", 1).then("nerve", 0, 5);
        dueCalm(e, 1, NONE, NONE);
        dueCalm(of("g4;s0,5;c1,9,1;").then("ticks", 1).then("nerve", 0, 6), 1, 0, 0);
    }

    static void promise25OfSeveralTheLeast() {
        dueCalm(of("g4;s0,3;s0,3;s0,3;c1,5,1;"), 50, 2, 3);
        dueCalm(of("g4;s0,1;s0,2;s0,3;c1,4,1;"), 50, 1, 4);
    }

    static void promise25AllOthersAreOn() {
        // the one that is off now is on, unless it is among the fewest
        Edge e = of("g4;s0,5;s1,9;c1,5,1;").then("flip", 0).then("flip", 1);
        dueCalm(e, 1, 1, 1);
        dueCalm(e, 50, 2, 3);
    }

    static void promise25ScreamsThatWereDoNotCount() {
        dueCalm(of(ONE).then("ticks", 2), 50, 0, 0);
    }

    static void promise25WithoutATrainStateIsAheadOfBad() {
        Edge e = new Edge(C).refused(STATE, "calm", 1, 0).refused(STATE, "calm", 0, 0).refused(STATE, "calm", 51, 0);
        e.refused(STATE, "calm", 1, 2).refused(STATE, "calm", 1, -1);
    }

    // ---- bears

    static void promise26TicksGoFrom1To50() {
        Edge e = of(ONE).foretold(1, "bears", 0, 1).foretold(6, "bears", 0, 2).foretold(6, "bears", 0, 50);
        for (int n : NOT_1_TO_50) {
            e.refused(BAD, "bears", 0, n);
        }
    }

    static void promise26CarsGoFrom0ToTheLast() {
        Edge e = of(QUICK).foretold(2, "bears", 0, 1).foretold(1, "bears", 5, 5).foretold(2, "bears", 5, 6);
        for (int car : new int[] {-1, 6, MIN, MAX}) {
            e.refused(BAD, "bears", car, 1);
        }
        of(ONE).refused(BAD, "bears", 1, 1).refused(BAD, "bears", -1, 1);
    }

    static void promise26From1To60ThenNone() {
        of("g4;m0,9;m0,5;s0,3;c4,1,1;").foretold(60, "bears", 0, 1);
        of("g4;m0,9;m0,6;c4,1,1;").foretold(NONE, "bears", 0, 1);
        of("g4;s0,9;c1,60,1;").then("flip", 0).foretold(1, "bears", 0, 50);
    }

    static void promise26OneThatIsOutBearsAll() {
        of(QUICK).then("ticks", 8).foretold(1, "bears", 0, 50);
    }

    static void promise26ScreamsThatWereDoNotCount() {
        of(ONE).then("ticks", 2).foretold(1, "bears", 0, 50);
    }

    // ---- byTurns

    private static void dueTurns(Edge e, int m, int... due) {
        for (int n = 0; n < due.length; n++) {
            e.foretold(due[n], "byTurns", n, m);
        }
    }

    static void promise29TurnsGoFrom0To4() {
        Edge e = of("g4;s0,5;c1,5,1;");
        dueTurns(e, 1, 1, 1, 0, 1, 0);
        for (int n : new int[] {-1, 5, MIN, MAX}) {
            e.refused(BAD, "byTurns", n, 1);
        }
    }

    static void promise29TicksGoFrom1To20() {
        Edge e = of("g4;s0,5;c1,5,1;");
        dueTurns(e, 20, 1, 1, 0, 1, 0);
        for (int m : new int[] {0, -1, 21, MIN, MAX}) {
            e.refused(BAD, "byTurns", 0, m);
        }
        dueTurns(of(ONE), 1, 0, 0, 0, 0, 0);
        dueTurns(of(ONE), 2, 1, 1, 0, 1, 0);
    }

    static void promise29NothingToSwitch() {
        // all are on: the one does nothing; all are off: the other does nothing unless one was switched on
        dueTurns(of("g4;s0,3;s0,3;s0,3;c1,5,1;"), 1, 1, 1, 1, 1, 1);
        Edge e = of("g4;s0,3;s0,3;c1,5,1;").then("flip", 0).then("flip", 1);
        dueTurns(e, 1, 0, 0, 0, 0, 0);
        dueTurns(of("g4;s0,5;c1,5,1;").then("flip", 0), 1, 0, 1, 0, 1, 0);
    }

    static void promise29FiveTricks() {
        dueTurns(of(FIVE), 20, 1, 1, 0, 1, 0);
        dueTurns(of(FIVE).then("flip", 0).then("flip", 4), 20, 0, 0, 0, 0, 0);
    }

    static void promise29ItMayBeBetterToDoNothing() {
        // the skeleton would halt car 0, so that both come to the ghost when ticks are even
        Edge e = of("g4;o2,7;s0,8;c2,2,3;c3,17,1;").foretold(1, "show", 20, 1).then("flip", 1);
        e.foretold(2, "show", 20, 1);
        dueTurns(e, 20, 2, 2, 1, 2, 1);
        // found by trying many trains: whichever of the three is off, there are three screams or more
        Edge f = of("g5;o3,6;o3,3;h4,5;c1,13,1;c2,11,2;c1,3,3;c4,10,3;c4,15,3;");
        f.foretold(2, "byTurns", 0, 20).foretold(2, "byTurns", 1, 20).foretold(2, "byTurns", 2, 20);
    }

    static void promise29ScreamsThatWereCount() {
        dueTurns(of(ONE).then("ticks", 2), 20, 1, 1, 1, 1, 1);
    }

    static void promise29WithoutATrainStateIsAheadOfBad() {
        Edge e = new Edge(C).refused(STATE, "byTurns", 0, 1).refused(STATE, "byTurns", -1, 1);
        e.refused(STATE, "byTurns", 5, 1).refused(STATE, "byTurns", 0, 0).refused(STATE, "byTurns", 0, 21);
    }

    // ---- who

    /** Fear is 0, then 2. */
    private static final String MET = "g4;s1,2;c3,60,1;";

    static void promise30TicksGoFrom1To12() {
        Edge e = of(MET).fills(0, 0, 0, 2, 2, 2, 2, 2, 2, 2, 2, 2, 2, 2, 2);
        e.foretold(62, "who", 0, 0, 0, 0, 0, 1).foretold(2, "who", 0, 0, 0, 0, 0, 2);
        e.foretold(2, "who", 0, 0, 0, 0, 0, 12).foretold(4, "who", 0, 1, 0, 0, 0, 12).foretold(2, "who", 0, 2, 0, 0, 0, 12);
        for (int n : new int[] {0, -1, 13, MIN, MAX}) {
            e.refused(BAD, "who", 0, 0, 0, 0, 0, n);
        }
        // the last of the twelve counts
        e.then("set", 0, 11, 3).foretold(0, "who", 0, 0, 0, 0, 0, 12).foretold(2, "who", 0, 0, 0, 0, 0, 11);
    }

    private static Edge ofSixCars() {
        String text = "g4;s3,1;b3,1;h3,1;m3,1;s0,2;" + "c1,60,1;".repeat(6);
        return of(text).fills(0, 0, 2).fills(7, 0, 0, 2);
    }

    static void promise30TricksGoFrom0ToTheLast() {
        Edge e = ofSixCars().foretold(4, "who", 4, 1, 0, 0, 0, 1).foretold(1022, "who", 0, 1, 0, 0, 0, 1);
        for (int trick : new int[] {-1, 5, MIN, MAX}) {
            e.refused(BAD, "who", trick, 0, 0, 0, 0, 1);
        }
        of(MET).fills(0, 0, 0).refused(BAD, "who", 1, 0, 0, 0, 0, 1);
    }

    static void promise30WhichGoesFrom0To2() {
        Edge e = ofSixCars().foretold(18, "who", 4, 0, 0, 0, 0, 1).foretold(4, "who", 4, 1, 0, 0, 0, 1);
        e.foretold(1, "who", 4, 2, 0, 0, 0, 1);
        for (int which : new int[] {-1, 3, MIN, MAX}) {
            e.refused(BAD, "who", 4, which, 0, 0, 0, 1);
        }
    }

    static void promise30CarsGoFrom0ToTheLast() {
        Edge e = ofSixCars().foretold(1022, "who", 4, 1, 5, 7, 0, 1).foretold(0, "who", 4, 1, 5, 7, 0, 2);
        e.foretold(62, "who", 4, 0, 1, 7, 0, 2);
        for (int car : new int[] {-1, 6, MIN, MAX}) {
            e.refused(BAD, "who", 4, 0, car, 0, 0, 1);
        }
        of(MET).fills(0, 0, 0).refused(BAD, "who", 0, 0, 1, 0, 0, 1);
    }

    static void promise30RowsGoFrom0To7() {
        Edge e = ofSixCars().foretold(4, "who", 4, 1, 0, 0, 0, 1).foretold(4, "who", 4, 1, 0, 7, 1, 1);
        for (int row : new int[] {-1, 8, MIN, MAX}) {
            e.refused(BAD, "who", 4, 1, 0, row, 0, 1);
        }
        for (int row = 1; row < 7; row++) {
            e.refused(NULL, "who", 4, 1, 0, row, 0, 1);
        }
    }

    static void promise30PlacesUpToTheEnd() {
        Edge e = of(MET).fills(0, 0, 9, 9, 0, 2, 2, 2, 2, 2, 2, 2, 2, 2, 2, 2).due(40, "row", 1, 2, 40);
        e.foretold(2, "who", 0, 0, 0, 0, 2, 12).refused(PLACE, "who", 0, 0, 0, 0, 3, 12);
        e.foretold(1, "who", 0, 2, 0, 0, 13, 1).refused(PLACE, "who", 0, 2, 0, 0, 14, 1);
        e.refused(PLACE, "who", 0, 0, 0, 0, 13, 2).refused(PLACE, "who", 0, 0, 0, 0, -1, 1);
        e.refused(PLACE, "who", 0, 0, 0, 0, MIN, 12).refused(PLACE, "who", 0, 0, 0, 0, MAX, 12);
        e.refused(PLACE, "who", 0, 0, 0, 0, MAX, 1);
        e.foretold(4, "who", 0, 0, 0, 1, 28, 12).refused(PLACE, "who", 0, 0, 0, 1, 29, 12);
        e.due(0, "row", 1, 2, 0).refused(PLACE, "who", 0, 0, 0, 1, 0, 1);
    }

    static void promise30BadThenNullThenPlace() {
        Edge e = of(MET).fills(0, 0, 0);
        e.refused(BAD, "who", 1, 0, 0, 7, -1, 1).refused(BAD, "who", 0, 3, 0, 7, -1, 1);
        e.refused(BAD, "who", 0, 0, 1, 7, -1, 1).refused(BAD, "who", 0, 0, 0, 8, -1, 1);
        e.refused(BAD, "who", 0, 0, 0, 7, -1, 13).refused(BAD, "who", 0, 0, 0, 0, -1, 0);
        e.refused(NULL, "who", 0, 0, 0, 7, -1, 1).refused(NULL, "who", 0, 0, 0, 7, 0, 12);
        e.refused(PLACE, "who", 0, 0, 0, 0, -1, 1);
    }

    static void promise30TheFirstBitsAndTheLast() {
        Edge e = of("g12;s0,2;c1,60,1;").fills(0, 0, 1).foretold(2, "who", 0, 1, 0, 0, 0, 1);
        e.fills(0, 0, 9).foretold(512, "who", 0, 1, 0, 0, 0, 1).fills(0, 0, 10).foretold(0, "who", 0, 1, 0, 0, 0, 1);
        e.fills(0, 0, 0).foretold(0, "who", 0, 1, 0, 0, 0, 1).foretold(36, "who", 0, 0, 0, 0, 0, 1);
        e.foretold(4094, "who", 0, 2, 0, 0, 0, 1).fills(0, 0, 2).foretold(1, "who", 0, 2, 0, 0, 0, 1);
        e.foretold(18, "who", 0, 0, 0, 0, 0, 1).fills(0, 0, 4).foretold(8, "who", 0, 0, 0, 0, 0, 1);
        e.fills(0, 0, 0, 0, 0, 0, 0, 0, 0, 0, 0, 0, 0, 2).foretold(2048, "who", 0, 2, 0, 0, 0, 12);
    }

    static void promise30NothingFits() {
        for (int item : new int[] {-1, 60, 127, 128, 258, MIN, MAX}) {
            for (int which = 0; which <= 2; which++) {
                of(MET).fills(0, 2, 0, item).foretold(0, "who", 0, which, 0, 0, 0, 2);
            }
        }
    }

    static void promise30OneThatIsOffStaysOff() {
        Edge e = of(MET).then("flip", 0).fills(0, 0, 0, 0, 2).foretold(62, "who", 0, 0, 0, 0, 0, 2);
        e.foretold(1022, "who", 0, 1, 0, 0, 0, 2).foretold(15, "who", 0, 2, 0, 0, 0, 2);
        e.foretold(0, "who", 0, 0, 0, 0, 1, 2).foretold(0, "who", 0, 1, 0, 0, 1, 2);
    }

    // ---- nerves

    static void promise31TicksGoFrom1To12() {
        Edge e = of(MET).fills(0, 0, 0, 2, 2, 2, 2, 2, 2, 2, 2, 2, 2, 2, 2).foretold(60, "nerves", 0, 0, 0, 0, 1);
        e.foretold(58, "nerves", 0, 0, 0, 0, 2).foretold(58, "nerves", 0, 0, 0, 0, 12);
        for (int n : new int[] {0, -1, 13, MIN, MAX}) {
            e.refused(BAD, "nerves", 0, 0, 0, 0, n);
        }
        e.then("set", 0, 11, 3).foretold(0, "nerves", 0, 0, 0, 0, 12).foretold(58, "nerves", 0, 0, 0, 0, 11);
    }

    static void promise31CarsGoFrom0ToTheLast() {
        Edge e = ofSixCars().foretold(58, "nerves", 0, 0, 0, 0, 1).foretold(0, "nerves", 5, 0, 0, 0, 1);
        e.foretold(60, "nerves", 5, 0, 7, 0, 1);
        for (int car : new int[] {-1, 6, MIN, MAX}) {
            e.refused(BAD, "nerves", car, 0, 0, 0, 1);
        }
        of(MET).fills(0, 0, 0).refused(BAD, "nerves", 1, 0, 0, 0, 1);
    }

    static void promise31WhatIs0Or1() {
        Edge e = of(MET).fills(0, 0, 0, 2).foretold(58, "nerves", 0, 0, 0, 0, 2).foretold(3, "nerves", 0, 1, 0, 0, 2);
        for (int what : NOT_0_OR_1) {
            e.refused(BAD, "nerves", 0, what, 0, 0, 1);
        }
    }

    static void promise31RowsGoFrom0To7() {
        Edge e = ofSixCars().foretold(3, "nerves", 0, 1, 0, 0, 1).foretold(3, "nerves", 0, 1, 7, 1, 1);
        for (int row : new int[] {-1, 8, MIN, MAX}) {
            e.refused(BAD, "nerves", 0, 0, row, 0, 1);
        }
        e.refused(NULL, "nerves", 0, 0, 1, 0, 1).refused(NULL, "nerves", 0, 0, 6, 0, 1);
    }

    static void promise31PlacesUpToTheEnd() {
        Edge e = of(MET).fills(0, 0, 9, 9, 0, 2, 2, 2, 2, 2, 2, 2, 2, 2, 2, 2);
        e.foretold(58, "nerves", 0, 0, 0, 2, 12).refused(PLACE, "nerves", 0, 0, 0, 3, 12);
        e.foretold(0, "nerves", 0, 0, 0, 13, 1).refused(PLACE, "nerves", 0, 0, 0, 14, 1);
        e.refused(PLACE, "nerves", 0, 0, 0, -1, 1).refused(PLACE, "nerves", 0, 0, 0, MIN, 12);
        e.refused(PLACE, "nerves", 0, 0, 0, MAX, 12).refused(PLACE, "nerves", 0, 0, 0, MAX, 1);
        e.due(0, "row", 1, 2, 0).refused(PLACE, "nerves", 0, 0, 1, 0, 1);
    }

    static void promise31BadThenNullThenPlace() {
        Edge e = of(MET).fills(0, 0, 0);
        e.refused(BAD, "nerves", 1, 0, 7, -1, 1).refused(BAD, "nerves", 0, 2, 7, -1, 1);
        e.refused(BAD, "nerves", 0, 0, 8, -1, 1).refused(BAD, "nerves", 0, 0, 7, -1, 13);
        e.refused(NULL, "nerves", 0, 0, 7, -1, 1).refused(NULL, "nerves", 0, 0, 7, 0, 12);
        e.refused(PLACE, "nerves", 0, 0, 0, -1, 1);
    }

    static void promise31From1To60AndNone() {
        Edge e = of("g4;m0,9;m0,5;s0,3;c4,30,1;").fills(0, 0, 59);
        e.foretold(1, "nerves", 0, 0, 0, 0, 1).foretold(60, "nerves", 0, 1, 0, 0, 1);
        e.fills(0, 0, 0).foretold(59, "nerves", 0, 0, 0, 0, 1).foretold(1, "nerves", 0, 1, 0, 0, 1);
        e.fills(0, 0, 60).foretold(0, "nerves", 0, 0, 0, 0, 1).foretold(NONE, "nerves", 0, 1, 0, 0, 1);
        e.fills(0, 0, 58).foretold(0, "nerves", 0, 0, 0, 0, 1).foretold(NONE, "nerves", 0, 1, 0, 0, 1);
        Edge f = of("g4;s0,5;c1,30,1;").then("flip", 0).fills(0, 0, 0);
        f.foretold(60, "nerves", 0, 0, 0, 0, 1).foretold(1, "nerves", 0, 1, 0, 0, 1);
    }

    // ---- fails

    private static void dueFails(Edge e, int car, int n, int p, long above, long below) {
        e.foretold(above, "fails", car, n, p, 0).foretold(below, "fails", car, n, p, 1);
    }

    static void promise32TicksGoFrom0To60() {
        Edge e = of(ONE);
        dueFails(e, 0, 0, 4, 0, 1);
        dueFails(e, 0, 1, 4, 0, 1);
        dueFails(e, 0, 2, 4, 3, 5);
        dueFails(e, 0, 60, 4, 3, 5);
        for (int n : new int[] {-1, 61, MIN, MAX}) {
            e.refused(BAD, "fails", 0, n, 4, 0).refused(BAD, "fails", 0, n, 4, 1);
        }
    }

    static void promise32CasesGoFrom0To10() {
        Edge e = of(ONE);
        dueFails(e, 0, 9, 0, 1, 1);
        dueFails(e, 0, 9, 1, 9, 10);
        dueFails(e, 0, 9, 5, 1, 2);
        dueFails(e, 0, 9, 9, 1, 10);
        dueFails(e, 0, 9, 10, 0, 1);
        for (int p : new int[] {-1, 11, MIN, MAX}) {
            e.refused(BAD, "fails", 0, 9, p, 0).refused(BAD, "fails", 0, 9, p, 1);
        }
    }

    static void promise32CarsGoFrom0ToTheLast() {
        Edge e = of("g4;s0,1;" + "c1,60,1;".repeat(5) + "c1,1,1;");
        dueFails(e, 0, 60, 4, 0, 1);
        dueFails(e, 5, 5, 4, 0, 1);
        dueFails(e, 5, 6, 4, 3, 5);
        for (int car : new int[] {-1, 6, MIN, MAX}) {
            e.refused(BAD, "fails", car, 9, 4, 0);
        }
        of(ONE).refused(BAD, "fails", 1, 9, 4, 0).refused(BAD, "fails", -1, 9, 4, 1);
    }

    static void promise32WhatIs0Or1() {
        Edge e = of(ONE);
        for (int what : NOT_0_OR_1) {
            e.refused(BAD, "fails", 0, 9, 4, what);
        }
    }

    static void promise32InLowestTerms() {
        dueFails(of(FIVE), 0, 60, 1, 59049, 100000);
        dueFails(of(FIVE), 0, 60, 9, 1, 100000);
        dueFails(of(FIVE), 0, 60, 5, 1, 32);
        dueFails(of(FIVE), 0, 60, 2, 1024, 3125);
        dueFails(of(FIVE).then("nerve", 0, 1), 0, 60, 9, 40951, 100000);
        dueFails(of(FIVE).then("nerve", 0, 6), 0, 60, 5, 0, 1);
    }

    static void promise32OnlyTricksThatAreOnFail() {
        dueFails(of(FIVE).then("nerve", 0, 4).then("flip", 0), 0, 60, 5, 1, 16);
        Edge e = of(ONE).then("flip", 0);
        dueFails(e, 0, 60, 0, 0, 1);
        dueFails(e, 0, 60, 10, 0, 1);
    }

    static void promise32ScreamsThatWereDoNotCount() {
        dueFails(of(ONE).then("ticks", 2), 0, 60, 0, 0, 1);
        // this one screams whatever fails
        dueFails(of("g4;s0,5;c1,9,1;").then("ticks", 1).then("nerve", 0, 5), 0, 60, 10, 1, 1);
    }
}
