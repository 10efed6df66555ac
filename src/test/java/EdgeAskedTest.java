/** The edges of promises 36 to 41: kinds, asks and their trace, counts, status(). */
public final class EdgeAskedTest {
    private static final Check C = new Check("EdgeAskedTest");
    private static final int NONE = Check.NONE, BAD = Check.BAD, STATE = Check.STATE, FULL = Check.FULL;
    private static final int NULL = Check.NULL, PLACE = Check.PLACE, KIND = Check.KIND, SIZE = Check.SIZE;
    private static final int STORE = Check.STORE, MIN = Check.MIN, MAX = Check.MAX;
    private static final String ALL = "g4;s0,4;b0,6;h0,5;m0,3;o0,7;c1,60,1;";
    private static final String CALM = "g4;s0,1;c1,60,1;";
    private static final int[] NO_TRICKS_OF_FIVE = {-1, 5, MIN, MAX};

    public static void main(String[] args) {
        Edge.runAll(EdgeAskedTest.class, C);
    }

    private static Edge of(String text) {
        return Edge.of(C, text);
    }

    // ---- kind

    static void promise36TricksGoFrom0ToTheLast() {
        Edge e = of(ALL);
        for (int one = 0; one < 5; one++) {
            e.foretold(one + 1, "kind", one);
        }
        for (int one : NO_TRICKS_OF_FIVE) {
            e.refused(BAD, "kind", one);
        }
        of(CALM).foretold(1, "kind", 0).refused(BAD, "kind", 1).refused(BAD, "kind", -1);
        new Edge(C).refused(BAD, "kind", 0);
    }

    // ---- as

    static void promise37KindsGoFrom0To5() {
        int[] kinds = {0b000011, 0b000111, 0b001011, 0b010001, 0b110001};
        Edge e = of(ALL);
        for (int one = 0; one < 5; one++) {
            for (int kind = 0; kind <= 5; kind++) {
                if ((kinds[one] >> kind & 1) == 1) {
                    e.foretold(one, "as", one, kind);
                } else {
                    e.refused(KIND, "as", one, kind);
                }
            }
            for (int kind : new int[] {-1, 6, MIN, MAX}) {
                e.refused(BAD, "as", one, kind);
            }
        }
    }

    static void promise37TricksGoFrom0ToTheLast() {
        Edge e = of(ALL).foretold(0, "as", 0, 0).foretold(4, "as", 4, 5);
        for (int one : NO_TRICKS_OF_FIVE) {
            e.refused(BAD, "as", one, 0);
        }
        of(CALM).foretold(0, "as", 0, 1).refused(BAD, "as", 1, 1);
        new Edge(C).refused(BAD, "as", 0, 0);
    }

    static void promise37BadIsAheadOfKind() {
        of(CALM).refused(BAD, "as", 1, 5).refused(BAD, "as", 0, 6).refused(KIND, "as", 0, 5);
    }

    // ---- ask

    private static void dueAsk(Edge e, int one, int what, int answer, int... bodies) {
        e.due(answer, "ask", one, what);
        for (int i = 0; i < bodies.length; i++) {
            e.due(bodies[i], "trace", i);
        }
        e.due(NONE, "trace", bodies.length).due(NONE, "trace", bodies.length + 1);
    }

    static void promise38AsksAre0And1() {
        Edge e = of(ALL);
        dueAsk(e, 0, 0, 4, 11, 10, 21, 20);
        dueAsk(e, 0, 1, 0, 21, 20);
        for (int what : new int[] {-1, 2, MIN, MAX}) {
            e.refused(BAD, "ask", 0, what);
        }
    }

    static void promise38TricksGoFrom0ToTheLast() {
        Edge e = of(ALL);
        dueAsk(e, 4, 0, -186, 14, 13, 10);
        for (int one : NO_TRICKS_OF_FIVE) {
            e.refused(BAD, "ask", one, 0).refused(BAD, "ask", one, 1);
        }
        of(CALM).refused(BAD, "ask", 1, 0).refused(BAD, "ask", -1, 0);
        new Edge(C).refused(BAD, "ask", 0, 0);
    }

    static void promise38EachKindByItsBodies() {
        Edge e = of(ALL).then("ticks", 1);
        dueAsk(e, 0, 0, 4 + 1, 11, 10, 21, 20);
        dueAsk(e, 1, 0, -(6 + 2 * (1 + 1)), 12, 11, 10, 24, 21, 20);
        dueAsk(e, 2, 0, 5 + (2 + 1 - 1000), 11, 10, 22, 21, 20);
        dueAsk(e, 3, 0, 3 - 100, 13, 10);
        dueAsk(e, 4, 0, (7 - 100) * 2, 14, 13, 10);
        dueAsk(e, 0, 1, 1, 21, 20);
        dueAsk(e, 1, 1, 2 * (1 + 1), 24, 21, 20);
        dueAsk(e, 2, 1, 2 + 1 - 1000, 22, 21, 20);
        dueAsk(e, 3, 1, 3 - (3 - 100), 23, 20, 13, 10);
        dueAsk(e, 4, 1, 4 - (7 - 100) * 2, 23, 20, 14, 13, 10);
    }

    static void promise38TheTraceIsEmptyAheadOfIt() {
        Edge e = of(ALL);
        dueAsk(e, 1, 0, -8, 12, 11, 10, 24, 21, 20);
        dueAsk(e, 0, 1, 0, 21, 20);
    }

    static void promise38WhatIsRefusedLeavesTheTrace() {
        Edge e = of(ALL).due(-186, "ask", 4, 0).refused(BAD, "ask", 5, 0).refused(BAD, "ask", 0, 2);
        e.then("ask", 5, 0).due(14, "trace", 0).due(13, "trace", 1).due(10, "trace", 2).due(NONE, "trace", 3);
    }

    // ---- trace

    static void promise39NoneBeforeAnAsk() {
        Edge e = new Edge(C);
        for (int i : new int[] {MIN, -1, 0, 1, 15, 16, MAX}) {
            e.foretold(NONE, "trace", i);
        }
        of(ALL).foretold(NONE, "trace", 0).then("as", 0, 0).foretold(NONE, "trace", 0);
    }

    static void promise39From0ToTheLast() {
        Edge e = of(ALL).due(-8, "ask", 1, 0).foretold(12, "trace", 0).foretold(20, "trace", 5);
        for (int i : new int[] {MIN, -1, 6, 15, 16, MAX}) {
            e.foretold(NONE, "trace", i);
        }
    }

    static void promise39ItStaysWhateverIsDone() {
        Edge e = of(ALL).due(0, "ask", 0, 1).then("ticks", 3).then("undo").reads(CALM).then("train");
        e.due(21, "trace", 0).due(20, "trace", 1).due(NONE, "trace", 2);
    }

    // ---- count

    static void promise40WhatGoesFrom0To8() {
        Edge e = of("g4;s1,5;s0,2;c1,5,3;c1,60,1;").fills(3, 0, 1).fills(5, 1, 2).then("ticks", 4).feeds("g4;");
        int[] due = {2, 2, 2, 4, 1, 1, 7, 4, 3};
        for (int what = 0; what <= 8; what++) {
            e.foretold(due[what], "count", what);
        }
        for (int what : new int[] {-1, 9, MIN, MAX}) {
            e.refused(BAD, "count", what);
        }
    }

    static void promise40WithoutATrain() {
        Edge e = new Edge(C).fills(0, 0, 1).feeds("g4");
        int[] due = {1, 0, 0, 0, 0, 0, 0, 0, 2};
        for (int what = 0; what <= 8; what++) {
            e.foretold(due[what], "count", what);
        }
        e.refused(BAD, "count", -1).refused(BAD, "count", 9);
    }

    static void promise40AtTheMost() {
        Edge e = new Edge(C);
        for (int row = 0; row < 8; row++) {
            e.due(0, "row", row, 0, 0);
        }
        e.foretold(8, "count", 0);
        for (int i = 0; i < 100; i++) {
            e.then("feed", 'g');
        }
        e.foretold(100, "count", 8);
        Edge f = of("g4;s0,1;b0,1;h0,1;m0,1;o0,1;" + "c1,60,3;".repeat(6)).foretold(5, "count", 1).foretold(6, "count", 2);
        f.due(63, "ticks", 24).foretold(6, "count", 4).foretold(24, "count", 7);
        for (int i = 0; i < 40; i++) {
            f.then("ticks", 24);
        }
        f.due(63, "ticks", 15).due(999, "count", 3).due(24, "count", 7);
    }

    static void promise40FearAndScreamsOfAll() {
        Edge e = of("g4;s0,5;c1,5,1;c1,6,1;c1,60,1;").then("ticks", 1).foretold(1, "count", 5).foretold(0, "count", 6);
        e.then("ticks", 2).foretold(1, "count", 5).foretold(5, "count", 6).then("ticks", 1).foretold(10, "count", 6);
        e.then("ticks", 24).foretold(3, "count", 4).foretold(10, "count", 6).then("again", 1).foretold(5, "count", 6);
        e.then("again", 0).foretold(1, "count", 5);
    }

    // ---- status

    static void promise41NoneWasFound() {
        new Edge(C).foretold(0, "status").refused(BAD, "row", 8, 0, 0).refused(BAD, "drop", -1).foretold(0, "status");
    }

    static void promise41EachFinding() {
        Edge e = of(CALM).fills(0, 0, 1).fills(1, 1, 2);
        e.due(NULL, "set", 2, 0, 0).due(1, "status").due(PLACE, "set", 0, 1, 0).due(2, "status");
        e.due(KIND, "as", 0, 2).due(3, "status").due(SIZE, "row", 0, 0, -1).due(4, "status");
        e.due(STORE, "copy", 0, 0, 1, 0, 1).due(5, "status").due(NULL, "copy", 0, 0, 2, 0, 1).due(1, "status");
        e.due(PLACE, "copy", 0, 0, 0, 0, 2).due(2, "status").due(NULL, "drop", 2).due(1, "status");
        e.due(PLACE, "who", 0, 0, 0, 0, 1, 1).due(2, "status").due(NULL, "who", 0, 0, 0, 2, 0, 1).due(1, "status");
        e.due(PLACE, "nerves", 0, 0, 0, 1, 1).due(2, "status").due(NULL, "nerves", 0, 0, 2, 0, 1).due(1, "status");
        e.foretold(1, "status").foretold(1, "status");
    }

    static void promise41NoneIsFoundAnyMore() {
        found().due(0, "row", 1, 0, 0).due(0, "status");
        found().due(5, "set", 0, 0, 5).due(0, "status");
        found().due(0, "copy", 0, 0, 0, 0, 0).due(0, "status");
        found().due(2, "drop", 0).due(0, "status");
        found().due(0, "who", 0, 0, 0, 0, 0, 2).due(0, "status");
        found().due(0, "nerves", 0, 0, 0, 0, 2).due(0, "status");
        found().due(NONE, "nerves", 0, 1, 0, 0, 2).due(0, "status");
        found().due(0, "as", 0, 0).due(0, "status");
    }

    /** A train, a row, and the finding 3. */
    private static Edge found() {
        return of(CALM).fills(0, 0, 8, 9).due(KIND, "as", 0, 5).due(3, "status");
    }

    static void promise41WhatIsBadLeavesIt() {
        Edge e = found().due(BAD, "row", 8, 0, 1).due(BAD, "row", 0, 3, 1).due(BAD, "row", 0, 0, 41).due(3, "status");
        e.due(BAD, "set", 8, 0, 0).due(BAD, "copy", 8, 0, 0, 0, 0).due(BAD, "drop", 8).due(3, "status");
        e.due(BAD, "who", 1, 0, 0, 0, 0, 1).due(BAD, "who", 0, 0, 0, 0, 0, 13).due(3, "status");
        e.due(BAD, "nerves", 1, 0, 0, 0, 1).due(BAD, "nerves", 0, 0, 0, 0, 0).due(3, "status");
        e.due(BAD, "as", 1, 0).due(BAD, "as", 0, 6).due(3, "status");
    }

    static void promise41CallsWithoutARowLeaveIt() {
        Edge e = found().due(1, "feed", 'g').due(-1000101, "train").due(1, "fault").due(STATE, "undo").due(3, "status");
        e.due(0, "ticks", 1).due(0, "place", 0, 1).due(0, "flip", 0).due(60, "nerve", 0, 5).due(3, "status");
        e.due(STATE, "again", 0).due(1, "ticks", 4).due(1, "again", 0).due(3, "status");
        e.due(1, "trick", 0, 0).due(20, "car", 0, 3).due(NONE, "cell", 0, 0).due(4, "stand", 0).due(3, "status");
        e.due(20, "ahead", 0, 0, 0).due(0, "show", 0, 0).due(1, "when", 0, 0).due(5, "over").due(3, "status");
        e.due(0, "order", 9, 0).due(0, "spot", 0, 9, 0).due(0, "calm", 9, 0).due(1, "bears", 0, 9).due(3, "status");
        e.due(1, "sets", 0, 0).due(9, "share", 0, 9).due(0, "byTurns", 0, 1).due(0, "fails", 0, 9, 4, 0).due(3, "status");
        e.due(0, "drawn", 9, 1, 0).due(1, "image", 0).due(1, "restore", 0).due(1, "kind", 0).due(3, "status");
        e.due(2, "ask", 0, 0).due(11, "trace", 0).due(1, "count", 1).due(BAD, "count", 9).due(3, "status");
    }

    static void promise41StateAndFullLeaveIt() {
        Edge e = found();
        for (int i = 0; i < 41; i++) {
            e.then("ticks", 24);
        }
        e.due(1, "ticks", 15).due(FULL, "ticks", 1).due(3, "status").due(STATE, "place", 0, 0).due(3, "status");
        e.due(STATE, "restore", 1).due(3, "status");
    }

    static void promise41ATrainAndAnImageLeaveIt() {
        found().then("image", 0).reads(ALL).due(3, "status").due(1, "restore", 0).due(3, "status");
    }
}
