/** The edges of promises 10 to 18: ticks, what cars meet in them, tricks and cars that are changed, and looks at them. */
public final class EdgeDoneTest {
    private static final Check C = new Check("EdgeDoneTest");
    private static final int NONE = Check.NONE, BAD = Check.BAD, STATE = Check.STATE, FULL = Check.FULL;
    private static final int MIN = Check.MIN, MAX = Check.MAX;
    private static final String CALM = "g4;s0,1;c1,60,1;";
    private static final String QUICK = "g4;s0,1;c1,60,3;c1,60,3;c1,60,3;c1,60,3;c1,60,3;c1,60,3;";
    private static final String FULLEST = "g12;s0,1;b11,2;h2,3;m3,4;o4,9;c1,60,1;c4,1,3;c2,5,2;c3,6,1;c1,7,2;c4,8,3;";

    public static void main(String[] args) {
        Edge.runAll(EdgeDoneTest.class, C);
    }

    private static Edge of(String text) {
        return Edge.of(C, text);
    }

    // ---- ticks

    static void promise10From1To24() {
        Edge e = of(CALM).due(0, "ticks", 1).due(1, "count", 3).due(1, "ticks", 24).due(25, "count", 3);
        for (int n : new int[] {0, -1, 25, MIN, MAX}) {
            e.refused(BAD, "ticks", n);
        }
    }

    static void promise10WithoutATrainStateIsAheadOfBad() {
        Edge e = new Edge(C);
        for (int n : new int[] {0, 1, 24, 25, MIN, MAX}) {
            e.refused(STATE, "ticks", n);
        }
    }

    private static Edge atTick(String text, int tick) {
        Edge e = of(text);
        for (int left = tick; left > 0; left -= 24) {
            e.then("ticks", Math.min(left, 24));
        }
        return e.due(tick, "count", 3);
    }

    static void promise10TickIsAtMost999() {
        atTick(CALM, 975).due(1, "ticks", 24).due(999, "count", 3).refused(FULL, "ticks", 1).refused(FULL, "ticks", 24);
        atTick(CALM, 976).refused(FULL, "ticks", 24).due(1, "ticks", 23).due(999, "count", 3).refused(FULL, "ticks", 1);
        atTick(CALM, 998).refused(FULL, "ticks", 2).due(1, "ticks", 1).refused(FULL, "ticks", 1);
    }

    static void promise10BadIsAheadOfFull() {
        atTick(CALM, 999).refused(BAD, "ticks", 0).refused(BAD, "ticks", 25).refused(BAD, "ticks", MAX);
    }

    static void promise10BehindFullOneCanBeUndoneAndDone() {
        atTick(CALM, 999).due(23, "undo").due(998, "count", 3).due(1, "ticks", 1).refused(FULL, "ticks", 1);
    }

    static void promise10BitsOfAllSix() {
        Edge e = of(QUICK).due(0, "ticks", 2).due(1, "ticks", 1).due(31, "ticks", 4).due(63, "ticks", 1);
        e.due(6, "count", 4).due(63, "ticks", 24);
    }

    static void promise10EachTickIsAnAct() {
        of(CALM).due(0, "ticks", 3).due(3, "count", 7).due(1, "ticks", 20).due(23, "count", 7);
        of(CALM).then("ticks", 23).due(1, "ticks", 1).due(24, "count", 7).due(1, "ticks", 1).due(24, "count", 7);
    }

    // ---- a tick: cars that run

    static void promise10WhoIsHaltedStaysOneTick() {
        Edge e = of("g4;s0,5;c1,5,3;").then("ticks", 1).dueCar(0, 0, 0, 1, 1);
        e.then("ticks", 1).dueCar(0, 0, 0, 1, 0).then("ticks", 1).dueCar(0, 3, 0, 1, 0);
    }

    static void promise10ItGoesAsFarAsItsPace() {
        for (int pace = 1; pace <= 3; pace++) {
            Edge e = of("g12;s11,1;c1,60," + pace + ";").then("ticks", 1).dueCar(0, 0);
            e.then("ticks", 1).dueCar(0, pace).then("ticks", 1).dueCar(0, 2 * pace);
        }
    }

    static void promise10BeyondTheLastItIsOut() {
        of("g4;s0,1;c1,60,3;").due(0, "ticks", 2).dueCar(0, 3).due(1, "ticks", 1).dueCar(0, 21);
        of("g4;s0,1;c1,60,2;").due(0, "ticks", 2).dueCar(0, 2).due(1, "ticks", 1).dueCar(0, 21);
        of("g4;s0,1;c1,60,1;").due(0, "ticks", 4).dueCar(0, 3).due(1, "ticks", 1).dueCar(0, 21);
        of("g12;s0,1;c1,60,1;").due(0, "ticks", 12).dueCar(0, 11).due(1, "ticks", 1).dueCar(0, 21);
    }

    static void promise10ItStopsAheadOfAnother() {
        Edge e = of("g4;s3,1;c1,60,1;c1,60,3;").then("ticks", 2).dueCar(0, 1).dueCar(1, 0);
        e.then("ticks", 1).dueCar(0, 2).dueCar(1, 1).then("ticks", 1).dueCar(0, 3).dueCar(1, 2).due(3, "ticks", 1);
        // right behind one that is halted it stays where it is
        Edge f = of("g4;s1,5;c1,5,1;c1,60,3;").then("ticks", 2).dueCar(0, 1, 0, 1, 1).dueCar(1, 0);
        f.then("ticks", 1).dueCar(0, 1, 0, 1, 0).dueCar(1, 0).then("ticks", 1).dueCar(0, 2).dueCar(1, 1, 5);
    }

    static void promise10TheForemostGoesFirst() {
        // car 1 is ahead of car 0, and leaves its cell to it in the same tick
        Edge e = of("g4;s3,1;c1,60,3;c1,60,1;").then("ticks", 3).dueCar(0, 21).dueCar(1, 1).due(1, "again", 0);
        e.then("ticks", 1).dueCar(0, 0).dueCar(1, 2).then("ticks", 1).dueCar(0, 2).dueCar(1, 3);
    }

    static void promise10ItStopsWhereItScreams() {
        of("g4;s1,5;c1,5,3;").then("ticks", 2).dueCar(0, 1, 0, 1, 1);
        of("g4;s1,4;c1,5,3;").then("ticks", 2).dueCar(0, 3, 4, 0, 0);
        of("g4;s3,5;c1,5,3;").then("ticks", 2).dueCar(0, 3, 0, 1, 1).due(0, "ticks", 1).due(1, "ticks", 1);
    }

    static void promise10ItMeetsTricksOfEachCellOnItsWay() {
        of("g4;s1,1;s2,2;s3,4;c1,60,3;").then("ticks", 2).dueCar(0, 3, 7, 0, 0);
    }

    static void promise10WhoStaysMeetsNothing() {
        Edge e = of("g4;s0,5;c1,5,1;").then("ticks", 2).dueCar(0, 0, 0, 1, 0).due(1, "trick", 0, 3);
        e.then("ticks", 1).dueCar(0, 1, 0, 1, 0).due(1, "trick", 0, 3);
        Edge f = of("g4;s0,1;s1,5;c1,6,1;c1,60,3;").then("ticks", 3).dueCar(1, 0, 1, 0, 0).due(2, "trick", 0, 3);
    }

    // ---- a tick: cars that wait

    static void promise10OneComesIfNoneIsInCell0() {
        Edge e = of("g4;s0,5;c1,5,1;c1,60,1;").then("ticks", 1).dueCar(0, 0).dueCar(1, 20);
        e.then("ticks", 1).dueCar(0, 0).dueCar(1, 20).then("ticks", 1).dueCar(0, 1).dueCar(1, 0, 5);
    }

    static void promise10OnlyOneComesAndStaysInCell0() {
        Edge e = of(QUICK).then("ticks", 1).due(62, "stand", 1).dueCar(0, 0).dueCar(1, 20);
        e.then("ticks", 1).due(60, "stand", 1).dueCar(1, 0);
    }

    static void promise10NoneComesIfNoneWaits() {
        Edge e = of(CALM).due(1, "ticks", 5).due(1, "ticks", 1).due(NONE, "cell", 0, 0).due(0, "stand", 2);
        e.due(6, "count", 3).due(1, "trick", 0, 3);
    }

    static void promise10TheFirstThatWaitsByNumbers() {
        Edge e = of("g4;s3,1;c1,60,3;c1,60,1;c1,60,1;c1,60,1;").then("ticks", 3).due(9, "again", 0);
        e.then("ticks", 1).dueCar(0, 0).dueCar(3, 20).then("ticks", 1).dueCar(3, 0);
    }

    // ---- a tick: what cars meet

    static void promise10TricksThatAreOffAreNotMet() {
        Edge e = of("g4;s0,5;c1,9,1;c1,9,1;").due(0, "flip", 0).then("ticks", 1).dueCar(0, 0, 0).due(0, "trick", 0, 3);
        e.due(1, "flip", 0).then("ticks", 1).dueCar(1, 0, 5).due(1, "trick", 0, 3);
    }

    static void promise10MetIsAtMost999() {
        // three cars, one in each tick: more calls than are promised, as fewer cannot bring it there
        GhostTrain x = Check.of("g4;b0,9;c1,60,3;c1,60,3;c1,60,3;");
        for (int tick = 1; tick <= 999; tick++) {
            x.ticks(1);
            for (int car = 0; car < 3; car++) {
                x.again(car);
            }
        }
        C.due("met", x.trick(0, 3), 999);
        C.due("met one tick on", x.show(1, 2), 999);
        C.due("met 60 ticks on", x.show(60, 2), 999);
        int waits = Integer.numberOfTrailingZeros(x.stand(1));
        C.due("fear by a bat that is odd yet", x.ahead(waits, 1, 1), 0);
        x.undo();
        x.undo();
        C.due("met undone", x.trick(0, 3), 998);
        C.due("met undone, one tick on", x.show(1, 2), 999);
    }

    static void promise10SkeletonsByPower() {
        of("g4;s0,1;c4,60,1;").then("ticks", 1).dueCar(0, 0, 1);
        of("g4;s0,9;c4,60,1;").then("ticks", 1).dueCar(0, 0, 9);
    }

    static void promise10BatsIfMetIsEven() {
        Edge e = of("g4;b0,3;b1,4;c1,60,1;c1,60,1;c1,60,1;").then("ticks", 1).dueCar(0, 0, 0).due(1, "trick", 0, 3);
        e.then("ticks", 1).dueCar(0, 1, 0).dueCar(1, 0, 3).due(2, "trick", 0, 3).due(1, "trick", 1, 3);
        e.then("ticks", 1).dueCar(1, 1, 7).dueCar(2, 0, 0).due(3, "trick", 0, 3).due(2, "trick", 1, 3);
        e.then("ticks", 1).dueCar(2, 1, 0).due(3, "trick", 1, 3);
    }

    static void promise10HandsTwiceIfNoOtherRuns() {
        of("g4;h0,3;c1,60,1;").then("ticks", 1).dueCar(0, 0, 6);
        Edge e = of("g4;h0,3;c1,60,1;c1,60,1;").then("ticks", 1).dueCar(0, 0, 6).then("ticks", 1).dueCar(1, 0, 3);
        // one that is halted runs, too; one that is just out does not
        of("g4;s1,9;h0,3;c1,9,1;c1,60,1;").then("ticks", 2).dueCar(0, 1, 0, 1, 1).dueCar(1, 0, 3);
        of("g4;h1,3;c1,60,3;c1,60,1;").then("ticks", 2).dueCar(0, 3, 6).then("ticks", 1).dueCar(0, 21).dueCar(1, 1, 6);
    }

    static void promise10MirrorsByRiders() {
        Edge e = of("g4;m0,9;c1,60,1;c4,60,1;").then("ticks", 1).dueCar(0, 0, 9).then("ticks", 1).dueCar(1, 0, 36);
    }

    static void promise10GhostsIfTickIsOdd() {
        Edge e = of("g4;o0,3;c2,60,1;c1,60,1;c4,60,1;").then("ticks", 1).dueCar(0, 0, 0).due(1, "trick", 0, 3);
        e.then("ticks", 1).dueCar(1, 0, 3).then("ticks", 1).dueCar(2, 0, 0);
        of("g4;o0,3;c4,60,1;").then("ticks", 5).due(1, "again", 0).then("ticks", 1).dueCar(0, 0, 12);
    }

    static void promise10ItScreamsIfFearIsNerveOrMore() {
        Edge e = of("g4;s0,5;c1,6,1;c1,5,1;c1,4,1;").then("ticks", 1).dueCar(0, 0, 5, 0, 0);
        e.then("ticks", 1).dueCar(0, 1, 5, 0, 0).dueCar(1, 0, 0, 1, 1);
        e.then("ticks", 1).dueCar(0, 2, 5, 0, 0).dueCar(1, 0, 0, 1, 0).dueCar(2, 20);
        e.then("ticks", 1).dueCar(1, 1, 0, 1, 0).dueCar(2, 0, 0, 1, 1);
        of("g4;s0,1;c1,1,1;").then("ticks", 1).dueCar(0, 0, 0, 1, 1);
        of("g4;m0,9;m0,5;s0,3;c4,60,1;").then("ticks", 1).dueCar(0, 0, 59, 0, 0);
        of("g4;m0,9;m0,6;c4,60,1;").then("ticks", 1).dueCar(0, 0, 0, 1, 1);
    }

    static void promise10ItScreamsOnceBehindAllTricks() {
        Edge e = of("g4;s0,9;s0,9;s0,9;c1,9,1;").then("ticks", 1).dueCar(0, 0, 0, 1, 1);
        e.due(1, "trick", 0, 3).due(1, "trick", 1, 3).due(1, "trick", 2, 3);
    }

    static void promise10ItScreamsInACellWithoutTricksToo() {
        Edge e = of("g4;s0,5;c1,9,1;").then("ticks", 1).due(9, "nerve", 0, 5).dueCar(0, 0, 5, 0, 0);
        e.then("ticks", 1).dueCar(0, 1, 0, 1, 1);
        of("g4;s0,5;c1,9,1;").then("ticks", 1).due(9, "nerve", 0, 6).then("ticks", 1).dueCar(0, 1, 5, 0, 0);
    }

    static void promise10FearStaysWhenItIsOut() {
        of("g4;s0,5;c1,9,3;").then("ticks", 3).dueCar(0, 21, 5, 0, 0).then("ticks", 24).dueCar(0, 21, 5, 0, 0);
        // beyond the last cell there is nothing to scream in
        of("g4;s0,5;c1,9,3;").then("ticks", 2).then("nerve", 0, 5).then("ticks", 1).dueCar(0, 21, 5, 0, 0);
    }

    // ---- place

    static void promise11TricksGoFrom0ToTheLast() {
        Edge e = of(FULLEST).due(0, "place", 0, 5).due(4, "place", 4, 5).due(17, "cell", 5, 1);
        for (int trick : new int[] {-1, 5, MIN, MAX}) {
            e.refused(BAD, "place", trick, 1);
        }
        of(CALM).due(0, "place", 0, 1).refused(BAD, "place", 1, 1).refused(BAD, "place", -1, 1);
    }

    static void promise11CellsGoFrom0ToTheLast() {
        Edge e = of(CALM).due(0, "place", 0, 3).due(3, "trick", 0, 0).due(3, "place", 0, 0).due(0, "trick", 0, 0);
        for (int cell : new int[] {-1, 4, 11, MIN, MAX}) {
            e.refused(BAD, "place", 0, cell);
        }
        Edge f = of(FULLEST).due(0, "place", 0, 11).due(11, "place", 0, 0);
        f.refused(BAD, "place", 0, 12).refused(BAD, "place", 0, -1);
    }

    static void promise11StateIfItIsThere() {
        Edge e = of(CALM).refused(STATE, "place", 0, 0).due(0, "place", 0, 1).refused(STATE, "place", 0, 1);
        e.then("flip", 0).refused(STATE, "place", 0, 1).due(1, "place", 0, 0).refused(STATE, "place", 0, 0);
    }

    static void promise11WhoIsThereDoesNotMeetIt() {
        Edge e = of("g4;s3,5;c1,5,1;").then("ticks", 1).due(3, "place", 0, 0).dueCar(0, 0, 0, 0, 0);
        e.due(0, "trick", 0, 3).then("ticks", 1).dueCar(0, 1, 0, 0, 0).due(0, "trick", 0, 3);
    }

    // ---- flip

    static void promise12TricksGoFrom0ToTheLast() {
        Edge e = of(FULLEST).due(0, "flip", 0).due(0, "flip", 4).due(14, "stand", 4);
        for (int trick : new int[] {-1, 5, MIN, MAX}) {
            e.refused(BAD, "flip", trick);
        }
        of(CALM).refused(BAD, "flip", 1).refused(BAD, "flip", -1).due(0, "flip", 0);
    }

    static void promise12OffAndOnAgain() {
        Edge e = of(CALM).due(0, "flip", 0).due(0, "trick", 0, 2).due(1, "flip", 0).due(1, "trick", 0, 2);
        e.due(2, "count", 7).due(0, "flip", 0).due(0, "stand", 4);
    }

    // ---- nerve

    static void promise13CarsGoFrom0ToTheLast() {
        Edge e = of(FULLEST).due(60, "nerve", 0, 30).due(8, "nerve", 5, 31).due(30, "car", 0, 1).due(31, "car", 5, 1);
        for (int car : new int[] {-1, 6, MIN, MAX}) {
            e.refused(BAD, "nerve", car, 5);
        }
        of(CALM).refused(BAD, "nerve", 1, 5).refused(BAD, "nerve", -1, 5).due(60, "nerve", 0, 5);
    }

    static void promise13NervesGoFrom1To60() {
        Edge e = of(CALM).due(60, "nerve", 0, 1).due(1, "car", 0, 1).due(1, "nerve", 0, 60).due(60, "car", 0, 1);
        for (int v : new int[] {0, -1, 61, MIN, MAX}) {
            e.refused(BAD, "nerve", 0, v);
        }
    }

    static void promise13TheNerveThatItHasIsNotRefused() {
        of(CALM).due(60, "nerve", 0, 60).due(60, "car", 0, 1).due(1, "count", 7);
    }

    // ---- again

    static void promise14CarsGoFrom0ToTheLast() {
        Edge e = of(QUICK).due(63, "ticks", 8);
        for (int car : new int[] {-1, 6, MIN, MAX}) {
            e.refused(BAD, "again", car);
        }
        e.due(32, "again", 5).due(33, "again", 0).due(35, "again", 1).due(39, "again", 2).due(47, "again", 3);
        e.due(63, "again", 4).due(0, "stand", 3);
    }

    static void promise14StateIfItIsNotOut() {
        Edge e = of(CALM).refused(STATE, "again", 0).then("ticks", 1).refused(STATE, "again", 0);
        e.then("ticks", 3).refused(STATE, "again", 0).due(1, "ticks", 1).due(1, "again", 0).refused(STATE, "again", 0);
    }

    static void promise14BadIsAheadOfState() {
        of(CALM).refused(BAD, "again", 1).refused(BAD, "again", -1);
    }

    static void promise14FearIs0AndScreamsStay() {
        Edge e = of("g4;s1,5;s3,2;c1,5,3;").due(1, "ticks", 4).dueCar(0, 21, 2, 1, 0);
        e.due(1, "again", 0).dueCar(0, 20, 0, 1, 0).then("ticks", 2).dueCar(0, 1, 0, 2, 1);
    }

    // ---- looks

    static void promise15TricksGoFrom0ToTheLast() {
        Edge e = of(FULLEST).foretold(1, "trick", 0, 1).foretold(9, "trick", 4, 1);
        for (int trick : new int[] {-1, 5, MIN, MAX}) {
            e.refused(BAD, "trick", trick, 0);
        }
        of(CALM).foretold(0, "trick", 0, 0).refused(BAD, "trick", 1, 0);
    }

    static void promise15WhatGoesFrom0To3() {
        Edge e = of("g4;s3,9;s0,1;c1,60,1;").then("ticks", 4).then("flip", 0).foretold(3, "trick", 0, 0);
        e.foretold(9, "trick", 0, 1).foretold(0, "trick", 0, 2).foretold(1, "trick", 0, 3).foretold(1, "trick", 1, 2);
        for (int what : new int[] {-1, 4, MIN, MAX}) {
            e.refused(BAD, "trick", 0, what);
        }
    }

    static void promise16CarsGoFrom0ToTheLast() {
        Edge e = of(FULLEST).foretold(1, "car", 0, 0).foretold(4, "car", 5, 0);
        for (int car : new int[] {-1, 6, MIN, MAX}) {
            e.refused(BAD, "car", car, 0);
        }
        of(CALM).foretold(60, "car", 0, 1).refused(BAD, "car", 1, 0);
    }

    static void promise16WhatGoesFrom0To6() {
        Edge e = of("g4;s0,5;c3,5,2;").then("ticks", 1);
        int[] due = {3, 5, 2, 0, 0, 1, 1};
        for (int what = 0; what <= 6; what++) {
            e.foretold(due[what], "car", 0, what);
        }
        for (int what : new int[] {-1, 7, MIN, MAX}) {
            e.refused(BAD, "car", 0, what);
        }
    }

    static void promise16WhereItIs() {
        Edge e = of("g12;s0,1;c1,60,1;").foretold(20, "car", 0, 3).then("ticks", 1).foretold(0, "car", 0, 3);
        e.then("ticks", 11).foretold(11, "car", 0, 3).then("ticks", 1).foretold(21, "car", 0, 3);
        e.then("again", 0).foretold(20, "car", 0, 3);
    }

    static void promise17CellsGoFrom0ToTheLast() {
        Edge e = of(CALM).foretold(1, "cell", 0, 1).foretold(0, "cell", 3, 1);
        for (int cell : new int[] {-1, 4, 11, MIN, MAX}) {
            e.refused(BAD, "cell", cell, 0).refused(BAD, "cell", cell, 1);
        }
        of(FULLEST).foretold(2, "cell", 11, 1).refused(BAD, "cell", 12, 1);
    }

    static void promise17WhatIs0Or1() {
        Edge e = of(CALM).then("ticks", 1).foretold(0, "cell", 0, 0).foretold(1, "cell", 0, 1);
        for (int what : new int[] {-1, 2, MIN, MAX}) {
            e.refused(BAD, "cell", 0, what);
        }
    }

    static void promise17NobodyIsNone() {
        Edge e = of("g4;s0,1;c1,60,3;c1,60,3;").foretold(NONE, "cell", 0, 0).then("ticks", 2);
        e.foretold(1, "cell", 0, 0).foretold(NONE, "cell", 1, 0).foretold(NONE, "cell", 2, 0).foretold(0, "cell", 3, 0);
        e.then("ticks", 2).foretold(NONE, "cell", 0, 0).foretold(NONE, "cell", 3, 0);
    }

    static void promise17NoTricksOrAll() {
        Edge e = of("g4;s0,1;b0,1;h0,1;m0,1;o0,1;c1,60,1;").foretold(31, "cell", 0, 1).foretold(0, "cell", 1, 1);
        // one that is off is in its cell yet
        e.then("place", 4, 1).then("flip", 3).foretold(15, "cell", 0, 1).foretold(16, "cell", 1, 1);
    }

    static void promise18WhatGoesFrom0To4() {
        Edge e = of("g4;s0,1;s0,1;c1,60,3;c1,60,3;c1,60,3;c1,60,3;").then("ticks", 3).then("flip", 0);
        int[] due = {4, 8, 6, 1, 2};
        for (int what = 0; what <= 4; what++) {
            e.foretold(due[what], "stand", what);
        }
        for (int what : new int[] {-1, 5, MIN, MAX}) {
            e.refused(BAD, "stand", what);
        }
    }

    static void promise18NoneOrAll() {
        Edge e = of(QUICK).foretold(63, "stand", 1).foretold(0, "stand", 2).foretold(0, "stand", 3).foretold(1, "stand", 4);
        e.then("ticks", 8).then("flip", 0).foretold(0, "stand", 1).foretold(0, "stand", 2).foretold(63, "stand", 3);
        e.foretold(0, "stand", 4);
        of(FULLEST).foretold(31, "stand", 4);
    }

    static void promise18InTheLastCellItRuns() {
        Edge e = of("g12;s0,1;c1,60,1;").then("ticks", 12).foretold(1, "stand", 2).foretold(0, "stand", 3);
        e.then("ticks", 1).foretold(0, "stand", 2).foretold(1, "stand", 3);
    }

    static void promise18WithoutATrainStateIsAheadOfBad() {
        Edge e = new Edge(C);
        for (int what : new int[] {-1, 0, 4, 5, MIN, MAX}) {
            e.refused(STATE, "stand", what);
        }
    }
}
