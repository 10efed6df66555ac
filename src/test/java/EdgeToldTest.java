/** The edges of promises 1 and 6 to 9: a new object, the tape, texts and their faults, undoing. */
public final class EdgeToldTest {
    private static final Check C = new Check("EdgeToldTest");
    private static final int NONE = Check.NONE, BAD = Check.BAD, STATE = Check.STATE, FULL = Check.FULL;
    private static final int NULL = Check.NULL, MIN = Check.MIN, MAX = Check.MAX;
    private static final String SMALL = "g4;s0,1;c1,1,1;";
    private static final String FIVE = "g4;s0,1;b0,1;h0,1;m0,1;o0,1;";
    private static final String SIX = SMALL + "c1,1,1;c1,1,1;c1,1,1;c1,1,1;c1,1,1;";
    /** As long as a train's text can be. */
    private static final String LONGEST = "g12;s11,09;b11,09;h11,09;m11,09;o11,09;"
        + "c04,60,03;c04,60,03;c04,60,03;c04,60,03;c04,60,03;c04,60,03;";

    public static void main(String[] args) {
        Edge.runAll(EdgeToldTest.class, C);
    }

    private static Edge anew() {
        return new Edge(C);
    }

    /** A train with acts, both images, rows, a trace and a finding, so that any change would be seen. */
    private static Edge rich() {
        Edge e = Edge.of(C, "g5;s1,5;b0,1;c1,5,1;c1,9,2;").fills(0, 0, 1, 2).fills(5, 2, 3);
        e.then("image", 0).then("ticks", 3).then("flip", 1).then("image", 1).then("place", 0, 2).then("nerve", 1, 7);
        return e.then("ask", 1, 0).then("as", 0, 5);
    }

    // ---- a new object

    static void promise01NoTrain() {
        Edge e = anew();
        for (int what = 0; what <= 8; what++) {
            e.foretold(0, "count", what);
        }
        e.refused(STATE, "stand", 0).refused(STATE, "undo").refused(STATE, "ticks", 1).refused(STATE, "show", 0, 0);
        e.refused(STATE, "over").refused(STATE, "order", 1, -1).refused(STATE, "calm", 1, 0);
        e.refused(STATE, "sets", 0, 0).refused(STATE, "byTurns", 0, 1).refused(STATE, "drawn", 0, 1, 0);
        e.refused(STATE, "image", 0).refused(STATE, "image", 1).refused(STATE, "restore", 0);
        e.refused(STATE, "restore", 1);
    }

    static void promise01NoTrickNoCarNoCell() {
        Edge e = anew().fills(0, 0, 0);
        e.refused(BAD, "place", 0, 0).refused(BAD, "flip", 0).refused(BAD, "nerve", 0, 1).refused(BAD, "again", 0);
        e.refused(BAD, "trick", 0, 0).refused(BAD, "car", 0, 0).refused(BAD, "cell", 0, 0);
        e.refused(BAD, "ahead", 0, 0, 0).refused(BAD, "when", 0, 0).refused(BAD, "spot", 0, 1, 0);
        e.refused(BAD, "bears", 0, 1).refused(BAD, "share", 0, 0).refused(BAD, "who", 0, 0, 0, 0, 0, 1);
        e.refused(BAD, "nerves", 0, 0, 0, 0, 1).refused(BAD, "fails", 0, 0, 0, 0).refused(BAD, "kind", 0);
        e.refused(BAD, "as", 0, 0).refused(BAD, "ask", 0, 0);
    }

    static void promise01NothingElse() {
        Edge e = anew().foretold(0, "status").foretold(0, "fault").foretold(NONE, "trace", 0);
        for (int row = 0; row < 8; row++) {
            e.refused(NULL, "set", row, 0, 0);
        }
        e.due(1, "feed", 'g');
    }

    static void promise01CallsUpTo512() {
        Used x = new Used();
        for (int i = 0; i < SMALL.length(); i++) {
            x.call("feed", SMALL.charAt(i));
        }
        x.call("train");
        for (int i = SMALL.length() + 1; i < Used.MOST_CALLS - 3; i++) {
            C.due("flip", x.call("flip", 0), i % 2);
        }
        C.due("call 510", x.call("ticks", 24), 1);
        C.due("call 511", x.call("undo"), 23);
        C.due("call 512", x.call("count", 3), 23);
    }

    static void promise01LaterCallsNeverThrow() {
        GhostTrain x = Check.of(LONGEST);
        for (int i = 0; i < 3000; i++) {
            x.ticks(1);
            x.again(i % 6);
            x.flip(i % 5);
            x.feed('g');
            x.row(i % 8, i % 3, i % 41);
            x.nerve(i % 6, 1 + i % 60);
            x.undo();
        }
        // what they answer is free
        C.due("it has ended", x.count(2), 6);
    }

    // ---- feed

    static void promise06BytesGoFrom0To255() {
        Edge e = anew().due(1, "feed", 0).due(2, "feed", 255);
        for (int letter : new int[] {-1, 256, MIN, MAX}) {
            e.refused(BAD, "feed", letter);
        }
        e.due(2, "count", 8);
    }

    static void promise06AtMost100() {
        Edge e = anew();
        for (int i = 1; i <= 99; i++) {
            e.then("feed", 'g');
        }
        e.due(99, "count", 8).due(100, "feed", 'g').due(100, "count", 8);
        e.refused(FULL, "feed", 'g').refused(FULL, "feed", 0).refused(FULL, "feed", 255);
    }

    static void promise06BadIsAheadOfFull() {
        Edge e = anew();
        for (int i = 1; i <= 100; i++) {
            e.then("feed", 'g');
        }
        e.refused(BAD, "feed", -1).refused(BAD, "feed", 256);
    }

    static void promise06ItBeginsAgainBehindATrain() {
        Edge e = anew().feeds(SMALL).due(1, "train").due(0, "count", 8).due(1, "feed", 'g').due(-1000101, "train");
        for (int i = 1; i <= 100; i++) {
            e.due(i, "feed", 'x');
        }
        e.due(-1000100, "train").due(0, "count", 8).due(1, "feed", 'g');
    }

    // ---- train

    private static void taken(String... texts) {
        for (String text : texts) {
            Edge.of(C, text).due(0, "count", 8).due(0, "fault");
        }
    }

    private static void spoilt(String text, int place, int number) {
        anew().spoilt(text, place, number);
    }

    static void promise07AnEmptyTape() {
        spoilt("", 0, 1);
        rich().spoilt("", 0, 1);
    }

    static void promise07CellsGoFrom4To12() {
        Edge.of(C, "g4;s0,1;c1,1,1;").due(4, "stand", 0);
        Edge.of(C, "g12;s0,1;c1,1,1;").due(12, "stand", 0);
        spoilt("g3;s0,1;c1,1,1;", 1, 2);
        spoilt("g13;s0,1;c1,1,1;", 1, 2);
        spoilt("g0;s0,1;c1,1,1;", 1, 2);
        spoilt("g00;s0,1;c1,1,1;", 1, 2);
        spoilt("g99;s0,1;c1,1,1;", 1, 2);
    }

    static void promise07ItBeginsWithG() {
        for (int sign = 0; sign < 256; sign++) {
            if (sign == 'g') {
                taken((char) sign + SMALL.substring(1));
            } else {
                spoilt((char) sign + SMALL.substring(1), 0, 1);
            }
        }
    }

    static void promise07FiguresAlone() {
        for (int sign = 0; sign < 256; sign++) {
            String text = "g" + (char) sign + ";s0,1;c1,1,1;";
            if (sign >= '4' && sign <= '9') {
                taken(text);
            } else {
                spoilt(text, 1, sign >= '0' && sign <= '3' ? 2 : 1);
            }
        }
    }

    static void promise07ASemicolonBehindTheLaw() {
        for (int sign = 0; sign < 256; sign++) {
            String text = "g4" + (char) sign + "s0,1;c1,1,1;";
            if (sign == ';') {
                taken(text);
            } else if (sign >= '0' && sign <= '9') {
                spoilt(text, 1, 2);
            } else {
                spoilt(text, 2, 1);
            }
        }
    }

    static void promise07ACommaWithinATrick() {
        for (int sign = 0; sign < 256; sign++) {
            String text = "g4;s0" + (char) sign + "1;c1,1,1;";
            if (sign == ',') {
                taken(text);
            } else {
                spoilt(text, sign >= '0' && sign <= '9' ? 4 : 5, 1);
            }
        }
    }

    static void promise07FiveSorts() {
        for (int sign = 0; sign < 256; sign++) {
            String text = "g4;" + (char) sign + "0,1;c1,1,1;";
            int kind = "-sbhmo".indexOf(sign);
            if (kind > 0) {
                Edge.of(C, text).due(kind, "kind", 0);
            } else {
                spoilt(text, 3, 1);
            }
        }
    }

    static void promise07OnlyTricksAndCarsBehindATrick() {
        for (int sign = 0; sign < 256; sign++) {
            if ("sbhmoc".indexOf(sign) < 0) {
                spoilt("g4;s0,1;" + (char) sign, 8, 1);
            } else {
                spoilt("g4;s0,1;" + (char) sign, 9, 1);
            }
        }
    }

    static void promise07OnlyCarsBehindACar() {
        for (int sign = 0; sign < 256; sign++) {
            spoilt(SMALL + (char) sign, sign == 'c' ? 16 : 15, 1);
        }
    }

    static void promise07CellsOfTricks() {
        taken("g4;s0,1;c1,1,1;", "g4;s3,1;c1,1,1;", "g12;s11,1;c1,1,1;", "g9;s08,1;c1,1,1;");
        spoilt("g4;s4,1;c1,1,1;", 4, 2);
        spoilt("g12;s12,1;c1,1,1;", 5, 2);
        spoilt("g9;s09,1;c1,1,1;", 4, 2);
        spoilt("g4;s0,1;b4,1;c1,1,1;", 9, 2);
    }

    static void promise07SeveralTricksInOneCell() {
        Edge.of(C, FIVE + "c1,1,1;").due(31, "cell", 0, 1).due(0, "cell", 1, 1);
    }

    static void promise07PowersGoFrom1To9() {
        Edge.of(C, "g4;s0,1;s0,9;c1,1,1;").due(1, "trick", 0, 1).due(9, "trick", 1, 1);
        spoilt("g4;s0,0;c1,1,1;", 6, 2);
        spoilt("g4;s0,10;c1,1,1;", 6, 2);
        spoilt("g4;s0,00;c1,1,1;", 6, 2);
        spoilt("g4;s0,99;c1,1,1;", 6, 2);
    }

    static void promise07AtLeastOneTrick() {
        Edge.of(C, SMALL).due(1, "count", 1);
        spoilt("g4;c1,1,1;", 3, 1);
        spoilt("g4;", 3, 1);
    }

    static void promise07AtMostFiveTricks() {
        Edge.of(C, FIVE + "c1,1,1;").due(5, "count", 1).due(1, "trick", 4, 1).due(BAD, "trick", 5, 1);
        for (int i = 0; i < 5; i++) {
            spoilt(FIVE + "sbhmo".charAt(i) + "0,1;c1,1,1;", FIVE.length(), 3);
            spoilt(FIVE + "sbhmo".charAt(i), FIVE.length(), 3);
        }
    }

    static void promise07RidersGoFrom1To4() {
        Edge.of(C, "g4;s0,1;c1,1,1;c4,1,1;").due(1, "car", 0, 0).due(4, "car", 1, 0);
        spoilt("g4;s0,1;c0,1,1;", 9, 2);
        spoilt("g4;s0,1;c5,1,1;", 9, 2);
    }

    static void promise07NervesGoFrom1To60() {
        Edge.of(C, "g4;s0,1;c1,1,1;c1,60,1;").due(1, "car", 0, 1).due(60, "car", 1, 1);
        spoilt("g4;s0,1;c1,0,1;", 11, 2);
        spoilt("g4;s0,1;c1,61,1;", 11, 2);
    }

    static void promise07PacesGoFrom1To3() {
        Edge.of(C, "g4;s0,1;c1,1,1;c1,1,3;").due(1, "car", 0, 2).due(3, "car", 1, 2);
        spoilt("g4;s0,1;c1,1,0;", 13, 2);
        spoilt("g4;s0,1;c1,1,4;", 13, 2);
    }

    static void promise07AtLeastOneCar() {
        Edge.of(C, SMALL).due(1, "count", 2);
        spoilt("g4;s0,1;", 8, 1);
        spoilt(FIVE, FIVE.length(), 1);
    }

    static void promise07AtMostSixCars() {
        Edge.of(C, SIX).due(6, "count", 2).due(1, "car", 5, 0).due(BAD, "car", 6, 0);
        spoilt(SIX + "c1,1,1;", SIX.length(), 3);
        spoilt(SIX + "c", SIX.length(), 3);
        spoilt(SIX + "s", SIX.length(), 1);
    }

    static void promise07NumbersHaveTwoFiguresAtMost() {
        taken("g4;s0,1;c1,1,1;", "g04;s00,01;c01,01,01;", "g12;s11,09;c04,60,03;");
        spoilt("g004;s0,1;c1,1,1;", 1, 1);
        spoilt("g4;s000,1;c1,1,1;", 4, 1);
        spoilt("g4;s0,001;c1,1,1;", 6, 1);
        spoilt("g4;s0,1;c001,1,1;", 9, 1);
        spoilt("g4;s0,1;c1,001,1;", 11, 1);
        spoilt("g4;s0,1;c1,1,001;", 13, 1);
        spoilt("g0000004;s0,1;c1,1,1;", 1, 1);
        spoilt("g4;s0,1;c1,1,1;001", 15, 1);
    }

    static void promise07LettersEachByThemselves() {
        spoilt("gg4;s0,1;c1,1,1;", 1, 1);
        spoilt("g4;ss0,1;c1,1,1;", 4, 1);
        spoilt("g4;s0,1;cc1,1,1;", 9, 1);
        spoilt("g4;s0,1;s", 9, 1);
    }

    static void promise07TheEndHasItsFaultBehindAllBytes() {
        for (int length = 0; length < SMALL.length(); length++) {
            spoilt(SMALL.substring(0, length), length, 1);
        }
        spoilt(SMALL + "c1,1,1", SMALL.length() + 6, 1);
    }

    static void promise07TheFirstTokenThatHasOne() {
        spoilt("g3;s9,0;c0,0,0;x", 1, 2);
        spoilt("g4;s9,0;c0,0,0;x", 4, 2);
        spoilt("g4;s0,0;c0,0,0;x", 6, 2);
        spoilt("g4;s0,1;c0,0,0;x", 9, 2);
        spoilt("g4;s0,1;c1,0,0;x", 11, 2);
        spoilt("g4;s0,1;c1,1,0;x", 13, 2);
        spoilt("g4;s0,1;c1,1,1;x", 15, 1);
        spoilt("g4;s9;", 4, 2);
        spoilt("g3", 1, 2);
        spoilt(FIVE + "s9,0;", FIVE.length(), 3);
    }

    static void promise07OfOneTokenTheLeast() {
        // no number, and not as told; behind cars no trick, and none for which there is room
        spoilt("g999;s0,1;c1,1,1;", 1, 1);
        spoilt("g4;s0,1;c1,999,1;", 11, 1);
        spoilt(FIVE + "c1,1,1;s0,1;", FIVE.length() + 7, 1);
        spoilt("g4;c1,1,1;c1,1,1;c1,1,1;c1,1,1;c1,1,1;c1,1,1;c1,1,1;", 3, 1);
    }

    static void promise07TheLongestText() {
        C.due("its length", LONGEST.length(), 99);
        Edge.of(C, LONGEST).due(5, "count", 1).due(6, "count", 2).due(12, "stand", 0);
        spoilt(LONGEST + "c", 99, 3);
        spoilt(LONGEST + ";", 99, 1);
        spoilt(LONGEST + "s", 99, 1);
        spoilt("g4;s0,1;c1,1,1;" + "x".repeat(85), 15, 1);
    }

    static void promise07AtAFaultAllStays() {
        Edge e = rich();
        e.spoilt("g3;", 1, 2).spoilt("x", 0, 1).spoilt("g4;s0,1;", 8, 1).spoilt(FIVE + "s", FIVE.length(), 3);
        e.spoilt("g9;m7,7;c4,44,1;c1,1,1;c0,1,1;", 24, 2);
        anew().spoilt("g4;s0,1;c1,1,4;", 13, 2);
    }

    static void promise07ATrainStandsInPlaceOfTheOneBefore() {
        String other = "g4;h2,3;m0,4;o3,5;c2,8,3;";
        Edge e = rich().reads(other);
        e.due(3, "count", 1).due(1, "count", 2).due(0, "count", 3).due(0, "count", 4).due(0, "count", 5);
        e.due(0, "count", 6).due(0, "count", 7).due(4, "stand", 0).due(1, "stand", 1).due(0, "stand", 2);
        e.due(0, "stand", 3).due(7, "stand", 4).dueCar(0, 20, 0, 0, 0);
        for (int trick = 0; trick < 3; trick++) {
            e.due(1, "trick", trick, 2).due(0, "trick", trick, 3);
        }
        e.refused(BAD, "car", 1, 0).refused(BAD, "cell", 4, 0).refused(STATE, "undo");
        // rows, images, the trace and status() are no part of it
        e.due(2, "count", 0).due(12, "trace", 0).due(3, "status").due(1, "restore", 1).due(5, "stand", 0);
    }

    static void promise07TheSameTextAnew() {
        Edge e = Edge.of(C, SMALL).then("ticks", 3).then("flip", 0).then("nerve", 0, 9).reads(SMALL);
        e.dueLike(Edge.of(C, SMALL));
    }

    // ---- fault

    static void promise08NoneBeforeOne() {
        anew().foretold(0, "fault").feeds(SMALL).foretold(0, "fault").due(1, "train").foretold(0, "fault");
    }

    static void promise08TheLatest() {
        Edge e = anew().due(-1000100, "train").foretold(1, "fault");
        e.feeds("g3;").due(-1000101, "train").foretold(2, "fault");
        e.feeds(FIVE + "s").due(-1000100 - FIVE.length(), "train").foretold(3, "fault");
        e.feeds("x").due(-1000100, "train").foretold(1, "fault");
    }

    static void promise08ItStaysBehindATrainThatIsRead() {
        Edge e = anew().feeds("g3;").due(-1000101, "train").reads(SMALL).foretold(2, "fault");
        e.then("ticks", 1).then("undo").then("image", 0).then("restore", 0).foretold(2, "fault");
        e.refused(BAD, "feed", 256).foretold(2, "fault");
    }

    // ---- undo

    static void promise09NoneCanBeUndone() {
        anew().refused(STATE, "undo");
        Edge e = Edge.of(C, SMALL).refused(STATE, "undo");
        e.due(0, "ticks", 1).due(0, "undo").refused(STATE, "undo");
        e.then("flip", 0).then("image", 0).due(1, "restore", 0).refused(STATE, "undo");
        e.then("flip", 0).reads(SMALL).refused(STATE, "undo");
    }

    static void promise09HowManyYet() {
        Edge e = Edge.of(C, SMALL).then("ticks", 24);
        for (int yet = 23; yet >= 0; yet--) {
            e.due(yet, "undo").due(yet, "count", 7).due(yet, "count", 3);
        }
        e.refused(STATE, "undo");
    }

    static void promise09TwentyFourAreKept() {
        Edge e = Edge.of(C, SMALL).then("nerve", 0, 2);
        for (int v = 3; v <= 24; v++) {
            e.then("nerve", 0, v);
        }
        e.due(23, "count", 7).due(24, "nerve", 0, 25).due(24, "count", 7);
        for (int yet = 23; yet >= 0; yet--) {
            e.due(yet, "undo").due(yet + 1, "car", 0, 1);
        }
        e.refused(STATE, "undo");
    }

    static void promise09TheOldestOf25IsForgotten() {
        Edge e = Edge.of(C, SMALL);
        for (int v = 2; v <= 26; v++) {
            e.then("nerve", 0, v);
        }
        e.due(24, "count", 7);
        for (int yet = 23; yet >= 0; yet--) {
            e.due(yet, "undo").due(yet + 2, "car", 0, 1);
        }
        e.refused(STATE, "undo");
    }

    static void promise09TicksForgetTheOldestToo() {
        Edge e = Edge.of(C, SMALL).then("flip", 0).then("ticks", 24).due(24, "count", 7);
        for (int yet = 23; yet >= 0; yet--) {
            e.due(yet, "undo");
        }
        e.due(0, "count", 3).due(0, "trick", 0, 2).refused(STATE, "undo");
        e.then("ticks", 24).then("ticks", 24);
        for (int yet = 23; yet >= 0; yet--) {
            e.due(yet, "undo");
        }
        e.due(24, "count", 3).refused(STATE, "undo");
    }

    static void promise09ActsBehindUndoneOnes() {
        // the ring of kept acts goes round where acts are undone and done by turns
        Edge e = Edge.of(C, SMALL);
        for (int v = 2; v <= 21; v++) {
            e.then("nerve", 0, v);
        }
        for (int i = 0; i < 10; i++) {
            e.then("undo");
        }
        for (int v = 32; v <= 50; v++) {
            e.then("nerve", 0, v);
        }
        e.due(24, "count", 7);
        for (int v = 49; v >= 32; v--) {
            e.then("undo").due(v, "car", 0, 1);
        }
        for (int v = 11; v >= 6; v--) {
            e.then("undo").due(v, "car", 0, 1);
        }
        e.refused(STATE, "undo");
    }

    static void promise09EachActIsUndone() {
        String text = "g4;s1,5;b0,1;c1,5,3;c1,60,1;";
        Edge before = Edge.of(C, text).then("ticks", 4);
        before.due(1, "stand", 3);
        Edge.of(C, text).then("ticks", 4).due(1, "ticks", 1).due(4, "undo").dueLike(before);
        Edge.of(C, text).then("ticks", 4).due(1, "place", 0, 3).due(4, "undo").dueLike(before);
        Edge.of(C, text).then("ticks", 4).due(0, "flip", 1).due(4, "undo").dueLike(before);
        Edge.of(C, text).then("ticks", 4).due(5, "nerve", 0, 1).due(4, "undo").dueLike(before);
        Edge.of(C, text).then("ticks", 4).due(1, "again", 0).due(4, "undo").dueLike(before);
    }

    static void promise09WhatIsRefusedIsNoAct() {
        Edge e = Edge.of(C, SMALL).then("flip", 0);
        e.refused(STATE, "place", 0, 0).refused(BAD, "place", 0, 4).refused(BAD, "flip", 1);
        e.refused(BAD, "nerve", 0, 61).refused(STATE, "again", 0).refused(BAD, "ticks", 25).due(0, "undo");
    }

    static void promise09ItChangesNoRowTapeOrImage() {
        Edge e = rich().feeds("g4").due(5, "undo").due(2, "count", 0).due(2, "count", 8).due(12, "trace", 0);
        e.dueItems(5, 3).due(3, "status").due(1, "restore", 1).due(0, "trick", 1, 2);
    }
}
