/** The edges of promises 19 to 22, 27, 28 and 33 to 35: what will be, sets, shares, nights, images. */
public final class EdgeForetoldTest {
    private static final Check C = new Check("EdgeForetoldTest");
    private static final int NONE = Check.NONE, BAD = Check.BAD, STATE = Check.STATE, FULL = Check.FULL;
    private static final int MIN = Check.MIN, MAX = Check.MAX;
    /** Car 0 is in cell 0 behind tick 1, screams in cell 1 behind 2, is in 1, 2, 3 behind 3, 4, 5, and out behind 6. */
    private static final String ONE = "g4;s1,5;c1,5,1;";
    private static final String QUICK = "g4;s0,1;c1,60,3;c1,60,3;c1,60,3;c1,60,3;c1,60,3;c1,60,3;";
    private static final String FOURS = "g4;s0,1;c4,60,3;c4,60,3;c4,60,3;c4,60,3;c4,60,3;c4,60,3;";
    private static final int[] NO_CARS_OF_ONE = {-1, 1, MIN, MAX}, NO_CARS_OF_SIX = {-1, 6, MIN, MAX};

    public static void main(String[] args) {
        Edge.runAll(EdgeForetoldTest.class, C);
    }

    private static Edge of(String text) {
        return Edge.of(C, text);
    }

    private static Edge atTick(String text, int tick) {
        Edge e = of(text);
        for (int left = tick; left > 0; left -= 24) {
            e.then("ticks", Math.min(left, 24));
        }
        return e;
    }

    // ---- ahead

    static void promise19TicksGoFrom0To60() {
        Edge e = of(ONE).foretold(20, "ahead", 0, 0, 0).foretold(21, "ahead", 0, 60, 0).foretold(1, "ahead", 0, 60, 2);
        for (int n : new int[] {-1, 61, MIN, MAX}) {
            e.refused(BAD, "ahead", 0, n, 0);
        }
    }

    static void promise19CarsGoFrom0ToTheLast() {
        Edge e = of(ONE).foretold(20, "ahead", 0, 0, 0);
        for (int car : NO_CARS_OF_ONE) {
            e.refused(BAD, "ahead", car, 0, 0);
        }
        Edge f = of(QUICK).foretold(20, "ahead", 5, 5, 0).foretold(0, "ahead", 5, 6, 0);
        for (int car : NO_CARS_OF_SIX) {
            f.refused(BAD, "ahead", car, 0, 0);
        }
    }

    static void promise19WhatGoesFrom0To3() {
        Edge e = of(ONE).foretold(1, "ahead", 0, 2, 0).foretold(0, "ahead", 0, 2, 1).foretold(1, "ahead", 0, 2, 2);
        e.foretold(1, "ahead", 0, 2, 3).foretold(0, "ahead", 0, 3, 3);
        for (int what : new int[] {-1, 4, MIN, MAX}) {
            e.refused(BAD, "ahead", 0, 0, what);
        }
    }

    static void promise19WhereItIs() {
        Edge e = of("g12;s0,9;c1,60,1;").foretold(20, "ahead", 0, 0, 0).foretold(0, "ahead", 0, 1, 0);
        e.foretold(11, "ahead", 0, 12, 0).foretold(21, "ahead", 0, 13, 0).foretold(9, "ahead", 0, 60, 1);
    }

    static void promise19FromNowOn() {
        Edge e = of(ONE).then("ticks", 2).foretold(1, "ahead", 0, 0, 0).foretold(1, "ahead", 0, 0, 3);
        e.foretold(3, "ahead", 0, 3, 0).foretold(21, "ahead", 0, 4, 0);
    }

    static void promise19BeyondTick999() {
        // it comes in at tick 999, which is odd, and into the next cell at 1000, which is even
        Edge e = atTick("g4;o0,5;o1,5;c1,60,1;", 999).due(1, "again", 0).refused(FULL, "ticks", 1);
        e.foretold(5, "ahead", 0, 1, 1).foretold(1, "ahead", 0, 2, 0).foretold(5, "ahead", 0, 2, 1);
        e.foretold(21, "ahead", 0, 60, 0);
    }

    // ---- show

    static void promise20TicksGoFrom0To60() {
        Edge e = of(ONE).foretold(0, "show", 0, 0).foretold(1, "show", 60, 0).foretold(1, "show", 60, 2);
        for (int n : new int[] {-1, 61, MIN, MAX}) {
            e.refused(BAD, "show", n, 0);
        }
    }

    static void promise20WhatGoesFrom0To2() {
        Edge e = of(ONE).foretold(0, "show", 5, 0).foretold(1, "show", 6, 0).foretold(0, "show", 1, 1);
        e.foretold(1, "show", 2, 1).foretold(0, "show", 1, 2).foretold(1, "show", 2, 2);
        for (int what : new int[] {-1, 3, MIN, MAX}) {
            e.refused(BAD, "show", 0, what);
        }
    }

    static void promise20NoneOrAllAreOut() {
        of(QUICK).foretold(0, "show", 2, 0).foretold(1, "show", 3, 0).foretold(31, "show", 7, 0).foretold(63, "show", 8, 0);
    }

    static void promise20WhatWasCounts() {
        of(ONE).then("ticks", 6).foretold(1, "show", 0, 0).foretold(1, "show", 0, 1).foretold(1, "show", 60, 2);
    }

    static void promise20WithoutATrainStateIsAheadOfBad() {
        Edge e = new Edge(C).refused(STATE, "show", 0, 0).refused(STATE, "show", -1, 0).refused(STATE, "show", 61, 0);
        e.refused(STATE, "show", 0, 3).refused(STATE, "show", 0, -1);
    }

    // ---- when

    static void promise21CarsGoFrom0ToTheLast() {
        Edge e = of(ONE);
        for (int car : NO_CARS_OF_ONE) {
            e.refused(BAD, "when", car, 0);
        }
        Edge f = of(QUICK).foretold(6, "when", 5, 0).foretold(8, "when", 5, 2);
        for (int car : NO_CARS_OF_SIX) {
            f.refused(BAD, "when", car, 0);
        }
    }

    static void promise21HowGoesFrom0To2() {
        Edge e = of(ONE).foretold(1, "when", 0, 0).foretold(2, "when", 0, 1).foretold(6, "when", 0, 2);
        for (int how : new int[] {-1, 3, MIN, MAX}) {
            e.refused(BAD, "when", 0, how);
        }
    }

    static void promise21ItRunsOrIsOut() {
        Edge e = of(ONE).then("ticks", 1).foretold(0, "when", 0, 0).then("ticks", 5).foretold(0, "when", 0, 0);
        e.then("again", 0).foretold(1, "when", 0, 0);
    }

    static void promise21ItScreamsBehindOneTickAtLeast() {
        Edge e = of("g4;s0,5;s1,5;c1,5,1;").foretold(1, "when", 0, 1).then("ticks", 1).foretold(2, "when", 0, 1);
        e.then("ticks", 1).foretold(1, "when", 0, 1).then("ticks", 1).foretold(NONE, "when", 0, 1);
    }

    static void promise21ItNeverScreams() {
        of("g4;s1,5;c1,6,1;").foretold(NONE, "when", 0, 1).then("ticks", 24).foretold(NONE, "when", 0, 1);
        of("g4;s1,5;c1,6,1;").then("nerve", 0, 5).foretold(2, "when", 0, 1);
    }

    static void promise21ItIsOut() {
        Edge e = of(ONE).then("ticks", 5).foretold(1, "when", 0, 2).then("ticks", 1).foretold(0, "when", 0, 2);
        e.then("again", 0).foretold(6, "when", 0, 2);
    }

    // ---- over

    static void promise22AllAreOut() {
        Edge e = of(ONE).foretold(6, "over").then("ticks", 5).foretold(1, "over").then("ticks", 1).foretold(0, "over");
        e.then("again", 0).foretold(6, "over");
        of(QUICK).foretold(8, "over").then("ticks", 7).foretold(1, "over").then("ticks", 1).foretold(0, "over");
    }

    static void promise22OneOfSixIsNot() {
        of(QUICK).then("ticks", 8).then("again", 5).foretold(3, "over").then("ticks", 3).foretold(0, "over");
    }

    static void promise22TheLongest() {
        // six cars, each screaming in five cells
        String cars = "c1,1,1;".repeat(6);
        of("g12;s0,9;s2,9;s4,9;s6,9;s8,9;" + cars).foretold(28, "over").foretold(11, "when", 5, 0);
    }

    static void promise22WithoutATrain() {
        new Edge(C).refused(STATE, "over");
    }

    // ---- sets

    private static void dueSets(Edge e, int v, int many, int inAll, int inAny) {
        e.foretold(many, "sets", v, 0).foretold(inAll, "sets", v, 1).foretold(inAny, "sets", v, 2);
    }

    static void promise27RidersGoFrom0To24() {
        Edge e = of(FOURS);
        dueSets(e, 0, 1, 0, 0);
        dueSets(e, 24, 1, 63, 63);
        for (int v : new int[] {-1, 25, MIN, MAX}) {
            e.refused(BAD, "sets", v, 0);
        }
    }

    static void promise27WhatGoesFrom0To2() {
        Edge e = of("g4;s0,1;c1,9,1;c1,9,1;c4,9,1;");
        dueSets(e, 5, 2, 4, 7);
        for (int what : new int[] {-1, 3, MIN, MAX}) {
            e.refused(BAD, "sets", 0, what);
        }
    }

    static void promise27NoSuchSets() {
        Edge e = of(FOURS);
        dueSets(e, 1, 0, 0, 0);
        dueSets(e, 23, 0, 0, 0);
        dueSets(of("g4;s0,1;c1,9,1;"), 2, 0, 0, 0);
    }

    static void promise27CarsThatAreOutAreInNone() {
        Edge e = of(FOURS).due(1, "ticks", 3);
        dueSets(e, 24, 0, 0, 0);
        dueSets(e, 20, 1, 62, 62);
        e.then("ticks", 5);
        dueSets(e, 4, 0, 0, 0);
        dueSets(e, 0, 1, 0, 0);
        e.then("again", 3);
        dueSets(e, 4, 1, 8, 8);
    }

    static void promise27WithoutATrainStateIsAheadOfBad() {
        Edge e = new Edge(C).refused(STATE, "sets", 0, 0).refused(STATE, "sets", -1, 0).refused(STATE, "sets", 25, 0);
        e.refused(STATE, "sets", 0, 3).refused(STATE, "sets", 0, -1);
    }

    // ---- share

    private static final String THREE = "g4;s0,1;s1,1;s2,1;c1,60,1;";

    private static void dueShares(Edge e, int n, int... due) {
        for (int trick = 0; trick < due.length; trick++) {
            e.foretold(due[trick], "share", trick, n);
        }
    }

    static void promise28TakingsGoFrom0To999() {
        Edge e = of(THREE).then("ticks", 2);
        dueShares(e, 0, 0, 0, 0);
        dueShares(e, 1, 1, 0, 0);
        dueShares(e, 999, 500, 499, 0);
        for (int n : new int[] {-1, 1000, MIN, MAX}) {
            e.refused(BAD, "share", 0, n);
        }
    }

    static void promise28TricksGoFrom0ToTheLast() {
        Edge e = of(THREE).then("ticks", 3).foretold(1, "share", 0, 3).foretold(1, "share", 2, 3);
        for (int trick : new int[] {-1, 3, MIN, MAX}) {
            e.refused(BAD, "share", trick, 3);
        }
        Edge f = of("g4;s0,1;b0,1;h0,1;m0,1;o0,1;c1,60,1;").then("ticks", 1).foretold(1, "share", 4, 5);
        f.refused(BAD, "share", 5, 5).refused(BAD, "share", -1, 5);
    }

    static void promise28NoneIfNoneWasMet() {
        dueShares(of(THREE), 999, 0, 0, 0);
        dueShares(of(THREE).then("flip", 0).then("ticks", 1), 999, 0, 0, 0);
        dueShares(of(THREE).then("ticks", 1), 999, 999, 0, 0);
    }

    static void promise28WhatIsOverGoesToTheFirst() {
        Edge e = of(THREE).then("ticks", 3);
        dueShares(e, 9, 3, 3, 3);
        dueShares(e, 10, 4, 3, 3);
        dueShares(e, 11, 4, 4, 3);
        dueShares(e, 12, 4, 4, 4);
    }

    static void promise28NothingForOneThatNobodyMet() {
        Edge e = of(THREE).then("flip", 0).then("ticks", 3);
        dueShares(e, 1, 0, 1, 0);
        dueShares(e, 2, 0, 1, 1);
        dueShares(e, 999, 0, 500, 499);
        dueShares(of(THREE).then("flip", 1).then("ticks", 3), 3, 2, 0, 1);
    }

    // ---- drawn

    static void promise33TicksGoFrom0To60() {
        of("g4;s0,5;c1,9,1;").then("ticks", 1).foretold(0, "drawn", 0, 1, 0).foretold(5, "drawn", 0, 1, 1);
        Edge e = of(ONE).foretold(0, "drawn", 0, 7, 0).foretold(14, "drawn", 59, 7, 0).foretold(15, "drawn", 60, 7, 0);
        for (int n : new int[] {-1, 61, MIN, MAX}) {
            e.refused(BAD, "drawn", n, 7, 0);
        }
    }

    static void promise33SeedsGoFrom1To999999() {
        // by 999999: draws 3 and 4 set the trick into cell 3, 6 lets the car go again, 8 sets it into cell 2
        Edge e = of("g4;s2,5;c1,60,1;");
        int[] fears = {0, 0, 0, 0, 5, 5, 0, 0, 5};
        for (int n = 0; n < fears.length; n++) {
            e.foretold(fears[n], "drawn", n, 999999, 1);
        }
        // by 1: draws 1 to 6 do nothing, 7 lets the car go again
        Edge f = of(ONE);
        int[] screams = {0, 0, 1, 1, 1, 1, 1, 1, 2};
        for (int n = 0; n < screams.length; n++) {
            f.foretold(screams[n], "drawn", n, 1, 0);
        }
        for (int seed : new int[] {0, -1, 1000000, MIN, MAX}) {
            e.refused(BAD, "drawn", 1, seed, 0);
        }
    }

    static void promise33TheCarTheTrickAndTheCellByTheirRests() {
        // by 15 the first X is 252105: trick 1 into cell 1; the second is no multiple of 3
        of("g4;s3,5;s3,7;c1,60,1;c1,60,1;").foretold(7, "drawn", 2, 15, 1);
        // both are out, with fear 5 and 20: by 1 the first X is odd, by 2 even; by 3 it is odd, and a multiple of 3
        Edge e = of("g4;m0,5;c1,60,3;c4,60,3;").due(3, "ticks", 4).foretold(25, "drawn", 0, 1, 1).then("flip", 0);
        e.foretold(5, "drawn", 1, 1, 1).foretold(20, "drawn", 1, 2, 1);
        e.then("flip", 0).foretold(25, "drawn", 1, 3, 1);
    }

    static void promise33WhatIs0Or1() {
        Edge e = of(ONE).foretold(1, "drawn", 2, 1, 0).foretold(0, "drawn", 2, 1, 1);
        for (int what : new int[] {-1, 2, MIN, MAX}) {
            e.refused(BAD, "drawn", 1, 1, what);
        }
    }

    static void promise33OnlyScreamsInThemCount() {
        of(ONE).then("ticks", 2).foretold(0, "drawn", 0, 1, 0).foretold(0, "drawn", 1, 1, 0);
    }

    static void promise33WithoutATrainStateIsAheadOfBad() {
        Edge e = new Edge(C).refused(STATE, "drawn", 0, 1, 0).refused(STATE, "drawn", -1, 1, 0);
        e.refused(STATE, "drawn", 61, 1, 0).refused(STATE, "drawn", 0, 0, 0).refused(STATE, "drawn", 0, 1000000, 0);
        e.refused(STATE, "drawn", 0, 1, 2);
    }

    static void promise33BeyondTick999() {
        Edge e = atTick("g4;o0,5;c1,60,1;", 999).due(1, "again", 0);
        e.foretold(5, "drawn", 1, 1, 1);
        atTick("g4;o0,5;c1,60,1;", 998).due(1, "again", 0).foretold(0, "drawn", 1, 1, 1);
    }

    // ---- images

    static void promise34ImagesAre0And1() {
        Edge e = of(ONE).due(1, "image", 0).due(1, "image", 1);
        for (int k : new int[] {-1, 2, MIN, MAX}) {
            e.refused(BAD, "image", k);
        }
    }

    static void promise34BadThenStateWithoutATrain() {
        Edge e = new Edge(C).refused(STATE, "image", 0).refused(STATE, "image", 1);
        e.refused(BAD, "image", -1).refused(BAD, "image", 2);
    }

    static void promise34ItChangesNothingElse() {
        Edge e = of(ONE).then("ticks", 3).then("flip", 0).fills(0, 0, 7).then("as", 0, 5).feeds("g4");
        e.due(1, "image", 1).due(4, "count", 7).due(3, "count", 3).due(2, "count", 8).due(3, "status").dueItems(0, 7);
        e.refused(STATE, "restore", 0).due(3, "undo").due(1, "trick", 0, 2);
    }

    static void promise34AnImageInPlaceOfTheOneBefore() {
        Edge e = of(ONE).due(1, "image", 0).then("ticks", 2).due(1, "image", 0).then("ticks", 2);
        e.due(1, "restore", 0).due(2, "count", 3).dueCar(0, 1, 0, 1, 1);
    }

    static void promise35ImagesAre0And1() {
        Edge e = of(ONE).then("image", 0).then("ticks", 1).then("image", 1).then("ticks", 1);
        for (int k : new int[] {-1, 2, MIN, MAX}) {
            e.refused(BAD, "restore", k);
        }
        e.due(1, "restore", 0).due(0, "count", 3).due(1, "restore", 1).due(1, "count", 3);
    }

    static void promise35NoneWasKept() {
        new Edge(C).refused(STATE, "restore", 0).refused(STATE, "restore", 1).refused(BAD, "restore", 2);
        Edge e = of(ONE).then("ticks", 1).refused(STATE, "restore", 0).then("image", 0).refused(STATE, "restore", 1);
        e.due(1, "restore", 0).refused(STATE, "restore", 1);
    }

    static void promise35NoActCanBeUndoneThen() {
        Edge e = of(ONE).then("ticks", 3).then("image", 0).due(3, "count", 7).due(1, "restore", 0).due(0, "count", 7);
        e.refused(STATE, "undo").due(0, "ticks", 1).due(0, "undo").due(3, "count", 3).refused(STATE, "undo");
    }

    static void promise35AnImageIsKeptWhateverIsDone() {
        String text = "g5;s1,5;b0,1;c1,5,1;c1,9,2;";
        Edge e = of(text).then("ticks", 3).then("flip", 1).then("nerve", 1, 7).then("image", 0);
        e.then("place", 0, 4).then("ticks", 24).then("again", 0).then("flip", 1).then("nerve", 0, 60);
        e.reads("g12;m7,7;c4,44,1;c1,1,1;c1,1,1;").then("ticks", 2);
        Edge due = of(text).then("ticks", 3).then("flip", 1).then("nerve", 1, 7).then("image", 0).then("restore", 0);
        e.due(1, "restore", 0).dueLike(due).then("ticks", 2).then("flip", 0).due(1, "restore", 0).dueLike(due);
    }

    static void promise35FromTheLastTickBack() {
        Edge e = of("g4;s0,1;c1,60,1;").then("image", 0);
        for (int i = 0; i < 41; i++) {
            e.then("ticks", 24);
        }
        e.due(1, "ticks", 15).then("image", 1).refused(FULL, "ticks", 1).due(1, "restore", 0).due(0, "ticks", 1);
        e.due(1, "restore", 1).due(999, "count", 3).refused(FULL, "ticks", 1);
    }
}
