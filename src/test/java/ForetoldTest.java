/** Promises 19 to 35: what is foretold, and images. */
public final class ForetoldTest {
    private static final Check C = new Check("ForetoldTest");
    private static final int MIN = Integer.MIN_VALUE, MAX = Integer.MAX_VALUE;
    private static final String TWO = "g4;s1,2;c1,5,1;c2,5,2;";
    private static final String ONE = "g4;s1,5;c1,5,1;";

    public static void main(String[] args) {
        ahead();
        show();
        when();
        over();
        order();
        orderOfSome();
        spot();
        calm();
        bears();
        sets();
        share();
        byTurns();
        who();
        nerves();
        fails();
        drawn();
        images();
        refusedWithoutTrain();
        nothingChanges();
        C.end();
    }

    private static void ahead() {
        GhostTrain x = Check.of(ONE);
        int[][] due = {{20, 0, 0, 0}, {0, 0, 0, 0}, {1, 0, 1, 1}, {1, 0, 1, 0}, {2, 0, 1, 0}, {3, 0, 1, 0}, {21, 0, 1, 0}};
        for (int n = 0; n < due.length; n++) {
            for (int what = 0; what < 4; what++) {
                C.due("ahead(0, " + n + ", " + what + ")", x.ahead(0, n, what), due[n][what]);
            }
        }
        C.due("ahead(0, 60, 0)", x.ahead(0, 60, 0), 21);
        x.nerve(0, 9);
        C.due("ahead(0, 2, 1) of more nerve", x.ahead(0, 2, 1), 5);
        C.due("ahead(0, 60, 1) stays", x.ahead(0, 60, 1), 5);
        int[][] bad = {{1, 0, 0}, {-1, 0, 0}, {0, -1, 0}, {0, 61, 0}, {0, 0, 4}, {0, 0, -1}, {MAX, 0, 0}, {0, MAX, 0}};
        for (int[] b : bad) {
            C.due("ahead(" + b[0] + ", " + b[1] + ", " + b[2] + ")", x.ahead(b[0], b[1], b[2]), Check.BAD);
        }
        x.ticks(1);
        C.due("from now on", x.ahead(0, 1, 0), 1);
    }

    private static void show() {
        GhostTrain x = Check.of("g4;s1,5;s2,1;c1,5,1;c1,60,3;");
        int[][] due = {{0, 0, 0}, {0, 0, 0}, {0, 1, 1}, {0, 1, 1}, {0, 1, 3}, {0, 1, 4}, {3, 1, 4}};
        for (int n = 0; n < due.length; n++) {
            for (int what = 0; what < 3; what++) {
                C.due("show(" + n + ", " + what + ")", x.show(n, what), due[n][what]);
            }
        }
        int[][] bad = {{-1, 0}, {61, 0}, {0, 3}, {0, -1}, {MAX, 0}, {MIN, 0}};
        for (int[] b : bad) {
            C.due("show(" + b[0] + ", " + b[1] + ")", x.show(b[0], b[1]), Check.BAD);
        }
        x.ticks(2);
        C.due("show(0, 1) of what was", x.show(0, 1), 1);
        C.due("show(4, 0)", x.show(4, 0), 3);
        C.due("show(60, 2)", x.show(60, 2), 4);
    }

    private static void when() {
        GhostTrain x = Check.of("g4;s1,5;c1,5,1;c1,60,3;");
        int[][] due = {{1, 2, 6}, {2, Check.NONE, 6}};
        for (int car = 0; car < 2; car++) {
            for (int how = 0; how < 3; how++) {
                C.due("when(" + car + ", " + how + ")", x.when(car, how), due[car][how]);
            }
        }
        x.ticks(2);
        C.due("it runs", x.when(0, 0), 0);
        C.due("it screams from now on", x.when(0, 1), Check.NONE);
        C.due("it is out", x.when(0, 2), 4);
        x.ticks(4);
        C.due("that is out ran", x.when(0, 0), 0);
        C.due("that is out", x.when(1, 2), 0);
        int[][] bad = {{2, 0}, {-1, 0}, {0, 3}, {0, -1}, {MAX, 0}};
        for (int[] b : bad) {
            C.due("when(" + b[0] + ", " + b[1] + ")", x.when(b[0], b[1]), Check.BAD);
        }
        // each of six cars of nerve 1 screams in each of five cells, so that the last is out late
        GhostTrain y = Check.of("g12;s0,9;s2,9;s4,9;s6,9;s8,9;c1,1,1;c1,1,1;c1,1,1;c1,1,1;c1,1,1;c1,1,1;");
        C.due("the last runs", y.when(5, 0), 11);
        C.due("the last screams", y.when(5, 1), 11);
        C.due("the last is out", y.when(5, 2), 11 + 12 + 5);
    }

    private static void over() {
        C.due("over()", Check.of(TWO).over(), 5);
        GhostTrain x = Check.of(ONE);
        C.due("over()", x.over(), 6);
        x.ticks(5);
        C.due("over()", x.over(), 1);
        x.ticks(1);
        C.due("over()", x.over(), 0);
        x.again(0);
        C.due("over()", x.over(), 6);
        C.due("over() without a train", new GhostTrain().over(), Check.STATE);
    }

    private static void dueOrder(String text, int n, int screams, int... cars) {
        GhostTrain x = Check.of(text);
        C.due("order(" + n + ", -1) of " + text, x.order(n, -1), screams);
        for (int k = 0; k < cars.length; k++) {
            C.due("order(" + n + ", " + k + ") of " + text, x.order(n, k), cars[k]);
        }
        C.due("order(n, too many)", x.order(n, cars.length), Check.NONE);
    }

    private static void order() {
        // by a hand the first is frightened twice as much
        dueOrder("g4;h0,5;c1,11,1;c1,10,1;", 3, 1, 1, 0);
        dueOrder("g4;h0,5;c1,10,1;c1,11,1;", 3, 1, 0, 1);
        dueOrder("g4;h0,5;c1,11,1;c1,11,1;c1,10,1;", 4, 1, 2, 0, 1);
        dueOrder("g4;h0,5;c1,11,1;c1,11,1;c1,11,1;c1,10,1;", 4, 1, 3, 0, 1, 2);
        // without screams most should be out
        dueOrder("g4;s0,1;c1,60,1;c1,60,3;", 3, 0, 1, 0);
        dueOrder("g4;s0,1;c1,60,1;c1,60,3;", 5, 0, 0, 1);
        // more screams go before more that are out
        dueOrder("g4;h0,5;c1,60,3;c1,10,1;", 3, 1, 1, 0);
        dueOrder("g4;s0,1;c1,60,1;c1,60,1;c1,60,1;c1,60,1;c1,60,1;c1,60,1;", 50, 0, 0, 1, 2, 3, 4, 5);
        GhostTrain x = Check.of("g4;h0,5;c1,11,1;c1,10,1;");
        int[][] bad = {{0, 0}, {51, 0}, {-1, 0}, {1, -2}, {1, MIN}, {MAX, 0}};
        for (int[] b : bad) {
            C.due("order(" + b[0] + ", " + b[1] + ")", x.order(b[0], b[1]), Check.BAD);
        }
        C.due("order(1, MAX)", x.order(1, MAX), Check.NONE);
        C.due("BAD ahead of NONE", x.order(0, 9), Check.BAD);
        C.due("order(3, 0)", x.order(3, 0), 1);
        x.nerve(0, 10);
        C.due("order(3, 0) by another nerve", x.order(3, 0), 0);
        x.undo();
        C.due("order(3, 0) undone", x.order(3, 0), 1);
        C.due("order(3, -1)", x.order(3, -1), 1);
        x.flip(0);
        C.due("order(3, -1) by no trick", x.order(3, -1), 0);
        x.flip(0);
        x.image(0);
        x.place(0, 1);
        C.due("order(1, -1) elsewhere", x.order(1, -1), 0);
        x.restore(0);
        C.due("order(1, -1) restored", x.order(1, -1), 1);
        Check.tell(x, "g4;s3,5;c1,11,1;c1,10,1;");
        C.due("order(1, -1) of another train", x.order(1, -1), 0);
    }

    private static void orderOfSome() {
        GhostTrain x = Check.of("g4;s0,1;c1,60,1;c1,60,1;c1,60,3;");
        x.ticks(1);
        int[] due = {0, 2, 1};
        for (int k = 0; k < 3; k++) {
            C.due("order(4, k) with one that runs", x.order(4, k), due[k]);
        }
        // car 0 out goes again, car 1 runs in cell 1, car 2 waits: 2 should go ahead of 0
        GhostTrain y = Check.of("g4;s3,2;c1,2,3;c1,60,1;c1,60,1;c1,60,3;");
        y.ticks(5);
        C.due("screams of what was count", y.order(1, -1), y.count(5));
        C.due("again(0)", y.again(0), 1);
        int[] all = {0, 1, 2, 3};
        for (int k = 0; k < 4; k++) {
            C.due("order(1, k) with one that waits", y.order(1, k), all[k]);
        }
    }

    private static void spot() {
        GhostTrain x = Check.of("g4;s3,5;c1,5,1;");
        C.due("spot(0, 2, 0)", x.spot(0, 2, 0), 0);
        C.due("spot(0, 2, 1)", x.spot(0, 2, 1), 1);
        x.ticks(1);
        C.due("spot(0, 1, 0) for one in cell 0", x.spot(0, 1, 0), 1);
        C.due("spot(0, 1, 1)", x.spot(0, 1, 1), 1);
        x.nerve(0, 6);
        C.due("spot(0, 50, 0) of more nerve", x.spot(0, 50, 0), 0);
        C.due("spot(0, 50, 1)", x.spot(0, 50, 1), 0);
        x.nerve(0, 5);
        x.place(0, 1);
        x.ticks(1);
        C.due("spot(0, 1, 1) with what was", x.spot(0, 1, 1), 1);
        x.flip(0);
        C.due("spot(0, 9, 0) off", x.spot(0, 9, 0), 0);
        int[][] bad = {{1, 1, 0}, {-1, 1, 0}, {0, 0, 0}, {0, 51, 0}, {0, 1, 2}, {0, 1, -1}, {MAX, 1, 0}};
        for (int[] b : bad) {
            C.due("spot(" + b[0] + ", " + b[1] + ", " + b[2] + ")", x.spot(b[0], b[1], b[2]), Check.BAD);
        }
        // a second skeleton makes one scream only where the first is met
        GhostTrain y = Check.of("g5;s0,3;s4,3;c1,6,1;");
        y.place(0, 2);
        C.due("spot(1, 3, 0)", y.spot(1, 3, 0), 0);
        C.due("spot(1, 3, 1)", y.spot(1, 3, 1), 1);
    }

    private static void dueCalm(String what, GhostTrain x, int n, int many, int which) {
        C.due("calm(" + n + ", 0) " + what, x.calm(n, 0), many);
        C.due("calm(" + n + ", 1) " + what, x.calm(n, 1), which);
    }

    private static void calm() {
        GhostTrain x = Check.of("g4;s0,5;s1,3;c1,5,1;");
        dueCalm("of the first", x, 1, 1, 1);
        dueCalm("of the first, too", x, 2, 1, 1);
        x.nerve(0, 3);
        dueCalm("of both", x, 2, 2, 3);
        x.nerve(0, 60);
        dueCalm("of none", x, 50, 0, 0);
        x.nerve(0, 5);
        x.flip(0);
        dueCalm("of one that is off", x, 1, 1, 1);
        x.flip(0);
        x.nerve(0, 60);
        x.ticks(1);
        x.nerve(0, 5);
        dueCalm("of one too afraid", x, 1, Check.NONE, Check.NONE);
        dueCalm("of several", Check.of("g4;s0,3;s0,3;s0,3;c1,5,1;"), 9, 2, 3);
        dueCalm("of several, one strong", Check.of("g4;s0,1;s0,2;s0,3;c1,4,1;"), 9, 1, 4);
        dueCalm("of all five", Check.of("g4;s0,1;s1,1;s2,1;s3,1;s3,1;c1,1,1;"), 50, 5, 31);
        GhostTrain y = Check.of(ONE);
        y.ticks(3);
        dueCalm("of what was", y, 50, 0, 0);
        int[][] bad = {{0, 0}, {51, 0}, {1, 2}, {1, -1}, {MIN, 0}};
        for (int[] b : bad) {
            C.due("calm(" + b[0] + ", " + b[1] + ")", y.calm(b[0], b[1]), Check.BAD);
        }
    }

    private static void bears() {
        GhostTrain x = Check.of("g4;s0,5;s1,3;c1,5,1;");
        C.due("bears(0, 1)", x.bears(0, 1), 6);
        C.due("bears(0, 2)", x.bears(0, 2), 9);
        C.due("bears(0, 50)", x.bears(0, 50), 9);
        x.ticks(1);
        C.due("bears(0, 1) behind a scream", x.bears(0, 1), 1);
        C.due("bears(0, 2) behind a scream", x.bears(0, 2), 4);
        C.due("bears of too much", Check.of("g4;m0,9;m0,9;c4,60,1;").bears(0, 1), Check.NONE);
        C.due("bears of 59", Check.of("g4;m0,9;m0,5;s0,3;c4,60,1;").bears(0, 1), 60);
        C.due("bears of 60", Check.of("g4;m0,9;m0,6;c4,60,1;").bears(0, 1), Check.NONE);
        int[][] bad = {{1, 1}, {-1, 1}, {0, 0}, {0, 51}, {MAX, 1}, {0, MIN}};
        for (int[] b : bad) {
            C.due("bears(" + b[0] + ", " + b[1] + ")", x.bears(b[0], b[1]), Check.BAD);
        }
    }

    private static void dueSets(GhostTrain x, int v, int many, int inAll, int inAny) {
        C.due("sets(" + v + ", 0)", x.sets(v, 0), many);
        C.due("sets(" + v + ", 1)", x.sets(v, 1), inAll);
        C.due("sets(" + v + ", 2)", x.sets(v, 2), inAny);
    }

    private static void sets() {
        GhostTrain x = Check.of("g4;s0,1;c1,9,3;c2,9,1;c3,9,1;");
        dueSets(x, 0, 1, 0, 0);
        dueSets(x, 1, 1, 1, 1);
        dueSets(x, 3, 2, 0, 7);
        dueSets(x, 4, 1, 5, 5);
        dueSets(x, 5, 1, 6, 6);
        dueSets(x, 6, 1, 7, 7);
        dueSets(x, 7, 0, 0, 0);
        dueSets(x, 24, 0, 0, 0);
        C.due("one is out", x.ticks(3), 1);
        dueSets(x, 3, 1, 4, 4);
        dueSets(x, 1, 0, 0, 0);
        dueSets(x, 5, 1, 6, 6);
        GhostTrain y = Check.of("g4;s0,1;c4,9,1;c4,9,1;c4,9,1;c4,9,1;c4,9,1;c4,9,1;");
        dueSets(y, 24, 1, 63, 63);
        dueSets(y, 20, 6, 0, 63);
        GhostTrain z = Check.of("g4;s0,1;c1,9,1;c1,9,1;c4,9,1;");
        dueSets(z, 5, 2, 4, 7);
        int[][] bad = {{-1, 0}, {25, 0}, {0, 3}, {0, -1}, {MAX, 0}};
        for (int[] b : bad) {
            C.due("sets(" + b[0] + ", " + b[1] + ")", z.sets(b[0], b[1]), Check.BAD);
        }
    }

    private static void dueShares(GhostTrain x, int n, int... due) {
        for (int trick = 0; trick < due.length; trick++) {
            C.due("share(" + trick + ", " + n + ")", x.share(trick, n), due[trick]);
        }
    }

    private static void share() {
        GhostTrain x = Check.of("g4;s0,1;s1,1;s2,1;c1,60,1;");
        dueShares(x, 999, 0, 0, 0);
        x.ticks(2);
        dueShares(x, 9, 5, 4, 0);
        x.ticks(1);
        dueShares(x, 10, 4, 3, 3);
        dueShares(x, 11, 4, 4, 3);
        dueShares(x, 12, 4, 4, 4);
        dueShares(x, 0, 0, 0, 0);
        dueShares(x, 1, 1, 0, 0);
        dueShares(x, 999, 333, 333, 333);
        GhostTrain y = Check.of("g4;s0,1;s1,1;s2,1;c1,60,1;");
        y.flip(0);
        y.ticks(3);
        dueShares(y, 9, 0, 5, 4);
        GhostTrain z = Check.of("g4;s0,1;s1,1;c1,60,1;c1,60,1;");
        z.ticks(2);
        dueShares(z, 10, 7, 3);
        dueShares(z, 998, 666, 332);
        int[][] bad = {{2, 0}, {-1, 0}, {0, -1}, {0, 1000}, {MAX, 0}, {0, MIN}};
        for (int[] b : bad) {
            C.due("share(" + b[0] + ", " + b[1] + ")", z.share(b[0], b[1]), Check.BAD);
        }
    }

    private static void dueTurns(String what, GhostTrain x, int m, int... due) {
        for (int n = 0; n < due.length; n++) {
            C.due("byTurns(" + n + ", " + m + ") " + what, x.byTurns(n, m), due[n]);
        }
    }

    private static void byTurns() {
        GhostTrain x = Check.of("g4;s0,5;c1,5,1;");
        dueTurns("on", x, 1, 1, 1, 0, 1, 0);
        x.flip(0);
        dueTurns("off", x, 1, 0, 1, 0, 1, 0);
        x.flip(0);
        x.ticks(2);
        dueTurns("of what was", x, 20, 1, 1, 1, 1, 1);
        // three skeletons of which two are enough
        GhostTrain y = Check.of("g4;s0,3;s0,3;s0,3;c1,5,1;");
        dueTurns("three on", y, 1, 1, 1, 1, 1, 1);
        y.flip(2);
        dueTurns("two on", y, 1, 1, 1, 1, 1, 1);
        y.flip(1);
        dueTurns("one on", y, 1, 0, 1, 0, 1, 0);
        y.flip(0);
        dueTurns("none on", y, 1, 0, 0, 0, 0, 0);
        int[][] bad = {{-1, 1}, {5, 1}, {0, 0}, {0, 21}, {MAX, 1}, {0, MAX}};
        for (int[] b : bad) {
            C.due("byTurns(" + b[0] + ", " + b[1] + ")", y.byTurns(b[0], b[1]), Check.BAD);
        }
    }

    private static void dueWho(GhostTrain x, int[] fears, int kinds, int powers, int cells) {
        Check.fill(x, 0, 1, fears);
        int n = fears.length;
        C.due("who(0, 0, ..)", x.who(0, 0, 0, 0, 0, n), kinds);
        C.due("who(0, 1, ..)", x.who(0, 1, 0, 0, 0, n), powers);
        C.due("who(0, 2, ..)", x.who(0, 2, 0, 0, 0, n), cells);
    }

    private static void who() {
        GhostTrain x = Check.of("g4;s1,2;c3,60,1;");
        dueWho(x, new int[] {0, 2}, 2, 4, 2);
        dueWho(x, new int[] {0, 6}, 48, 64, 0);
        dueWho(x, new int[] {0, 4}, 8, 16, 0);
        dueWho(x, new int[] {0, 0}, 4, 0, 12);
        dueWho(x, new int[] {2, 2}, 0, 0, 1);
        dueWho(x, new int[] {0, 9}, 0, 512, 0);
        dueWho(x, new int[] {0}, 62, 1022, 14);
        dueWho(x, new int[] {0, 2, 2, 2, 2, 2, 2, 2, 2, 2, 2, 2}, 2, 4, 2);
        dueWho(x, new int[] {0, 2, 2, 2, 2, 2, 2, 2, 2, 2, 2, 3}, 0, 0, 0);
        x.flip(0);
        dueWho(x, new int[] {0, 0}, 62, 1022, 15);
        dueWho(x, new int[] {0, 2}, 0, 0, 0);
        x.flip(0);
        Check.fill(x, 1, 2, 7, 0, 2, 7);
        C.due("from 1 on", x.who(0, 1, 0, 1, 1, 2), 4);
        C.due("PLACE", x.who(0, 1, 0, 1, 3, 2), Check.PLACE);
        C.due("PLACE below 0", x.who(0, 1, 0, 1, -1, 2), Check.PLACE);
        C.due("PLACE far off", x.who(0, 1, 0, 1, MAX, 12), Check.PLACE);
        C.due("the last one", x.who(0, 0, 0, 1, 3, 1), 0);
        C.due("NULL", x.who(0, 1, 0, 7, 0, 2), Check.NULL);
        C.due("NULL ahead of PLACE", x.who(0, 1, 0, 7, -1, 2), Check.NULL);
        int[][] bad = {{1, 0, 0, 1, 0, 1}, {-1, 0, 0, 1, 0, 1}, {0, 3, 0, 1, 0, 1}, {0, -1, 0, 1, 0, 1},
            {0, 0, 1, 1, 0, 1}, {0, 0, -1, 1, 0, 1}, {0, 0, 0, 8, 0, 1}, {0, 0, 0, -1, 0, 1}, {0, 0, 0, 1, 0, 0},
            {0, 0, 0, 1, 0, 13}, {0, 0, 0, 7, 0, 13}};
        for (int[] b : bad) {
            C.due("who with something BAD", x.who(b[0], b[1], b[2], b[3], b[4], b[5]), Check.BAD);
        }
        GhostTrain y = Check.of("g12;s11,2;c3,60,3;");
        dueWho(y, new int[] {0, 0, 0, 0, 2}, 2, 4, 1 << 10 | 1 << 11);
    }

    private static void dueNerves(GhostTrain x, int many, int least, int... fears) {
        Check.fill(x, 0, 0, fears);
        C.due("nerves(0, 0, ..)", x.nerves(0, 0, 0, 0, fears.length), many);
        C.due("nerves(0, 1, ..)", x.nerves(0, 1, 0, 0, fears.length), least);
    }

    private static void nerves() {
        GhostTrain x = Check.of("g4;s1,2;c3,60,1;");
        dueNerves(x, 58, 3, 0, 2);
        dueNerves(x, 2, 1, 0, 0);
        dueNerves(x, 0, Check.NONE, 0, 5);
        dueNerves(x, 60, 1, 0);
        Check.fill(x, 1, 2, 7, 0, 2, 7);
        C.due("from 1 on", x.nerves(0, 1, 1, 1, 2), 3);
        C.due("PLACE", x.nerves(0, 1, 1, 3, 2), Check.PLACE);
        C.due("PLACE far off", x.nerves(0, 1, 1, MAX, 12), Check.PLACE);
        C.due("NULL", x.nerves(0, 1, 7, 9, 2), Check.NULL);
        int[][] bad = {{1, 0, 1, 0, 1}, {-1, 0, 1, 0, 1}, {0, 2, 1, 0, 1}, {0, -1, 1, 0, 1}, {0, 0, 8, 0, 1},
            {0, 0, -1, 0, 1}, {0, 0, 1, 0, 0}, {0, 0, 1, 0, 13}};
        for (int[] b : bad) {
            C.due("nerves with something BAD", x.nerves(b[0], b[1], b[2], b[3], b[4]), Check.BAD);
        }
    }

    private static void dueFails(GhostTrain x, int car, int n, int p, long above, long below) {
        String call = "fails(" + car + ", " + n + ", " + p + ", ";
        C.due(call + "0)", x.fails(car, n, p, 0), above);
        C.due(call + "1)", x.fails(car, n, p, 1), below);
    }

    private static void fails() {
        GhostTrain x = Check.of("g4;s0,5;c1,5,1;c1,60,1;");
        dueFails(x, 0, 1, 4, 3, 5);
        dueFails(x, 0, 1, 0, 1, 1);
        dueFails(x, 0, 1, 10, 0, 1);
        dueFails(x, 0, 0, 4, 0, 1);
        dueFails(x, 1, 60, 4, 0, 1);
        x.flip(0);
        dueFails(x, 0, 60, 0, 0, 1);
        x.flip(0);
        x.ticks(1);
        dueFails(x, 0, 60, 0, 0, 1);
        GhostTrain y = Check.of("g4;s0,3;s0,3;c1,5,1;");
        dueFails(y, 0, 1, 5, 1, 4);
        dueFails(y, 0, 1, 3, 49, 100);
        y.flip(1);
        dueFails(y, 0, 60, 3, 0, 1);
        y.nerve(0, 3);
        dueFails(y, 0, 60, 3, 7, 10);
        GhostTrain z = Check.of("g4;s0,1;s1,1;s2,1;s3,1;s3,1;c1,5,1;");
        dueFails(z, 0, 60, 1, 59049, 100000);
        dueFails(z, 0, 60, 9, 1, 100000);
        z.nerve(0, 1);
        dueFails(z, 0, 60, 9, 40951, 100000);
        int[][] bad = {{1, 0, 0, 0}, {-1, 0, 0, 0}, {0, -1, 0, 0}, {0, 61, 0, 0}, {0, 0, -1, 0}, {0, 0, 11, 0},
            {0, 0, 0, 2}, {0, 0, 0, -1}};
        for (int[] b : bad) {
            C.due("fails with something BAD", z.fails(b[0], b[1], b[2], b[3]), Check.BAD);
        }
    }

    private static void drawn() {
        GhostTrain x = Check.of(ONE);
        int[] screams = {0, 0, 1, 1, 1, 1, 1, 1, 2, 2, 2};
        for (int n = 0; n < screams.length; n++) {
            C.due("drawn(" + n + ", 1, 0)", x.drawn(n, 1, 0), screams[n]);
            C.due("drawn(" + n + ", 1, 1)", x.drawn(n, 1, 1), 0);
        }
        C.due("drawn(2, 6, 0): the trick is set elsewhere", x.drawn(2, 6, 0), 0);
        C.due("drawn(3, 6, 0)", x.drawn(3, 6, 0), 1);
        x.nerve(0, 9);
        C.due("drawn(3, 6, 0) of more nerve", x.drawn(3, 6, 0), 0);
        C.due("drawn(3, 6, 1)", x.drawn(3, 6, 1), 5);
        x.nerve(0, 5);
        x.ticks(2);
        C.due("drawn(0, 1, 0) without what was", x.drawn(0, 1, 0), 0);
        C.due("drawn(60, 999999, 0) is told", x.drawn(60, 999999, 0) >= 0 ? 1 : 0, 1);
        int[][] bad = {{-1, 1, 0}, {61, 1, 0}, {0, 0, 0}, {0, 1000000, 0}, {0, -5, 0}, {0, 1, 2}, {0, 1, -1}};
        for (int[] b : bad) {
            C.due("drawn(" + b[0] + ", " + b[1] + ", " + b[2] + ")", x.drawn(b[0], b[1], b[2]), Check.BAD);
        }
    }

    private static void images() {
        GhostTrain x = Check.of("g5;s1,5;b0,1;c1,5,1;c1,9,2;");
        C.due("restore(0) of none", x.restore(0), Check.STATE);
        int[] bad = {-1, 2, MAX, MIN};
        for (int k : bad) {
            C.due("image(" + k + ")", x.image(k), Check.BAD);
            C.due("restore(" + k + ")", x.restore(k), Check.BAD);
        }
        C.due("image(0)", x.image(0), 1);
        x.ticks(3);
        x.flip(1);
        x.place(0, 2);
        x.nerve(1, 7);
        C.due("image(1)", x.image(1), 1);
        C.due("acts stay", x.count(7), 6);
        x.ticks(9);
        Check.tell(x, "g9;m7,7;c4,44,1;c1,1,1;c1,1,1;");
        C.due("restore(1)", x.restore(1), 1);
        C.due("undo() then", x.undo(), Check.STATE);
        int[] due = {0, 2, 2, 3, 0, 1, 1, 0};
        for (int what = 1; what < 8; what++) {
            C.due("count(" + what + ") restored", x.count(what), due[what]);
        }
        C.due("cells", x.stand(0), 5);
        C.due("on", x.stand(4), 1);
        C.due("kind", x.kind(1), 2);
        C.due("set elsewhere", x.trick(0, 0), 2);
        C.due("met", x.trick(1, 3), 2);
        C.due("nerve", x.car(1, 1), 7);
        C.due("where", x.cell(1, 0), 0);
        C.due("fear", x.car(1, 4), 1);
        C.due("restore(0)", x.restore(0), 1);
        C.due("tick", x.count(3), 0);
        C.due("all on", x.stand(4), 3);
        C.due("all wait", x.stand(1), 3);
        x.ticks(2);
        C.due("image(0) in place of it", x.image(0), 1);
        x.restore(1);
        x.restore(0);
        C.due("tick", x.count(3), 2);
        C.due("restore again", x.restore(0), 1);
    }

    private static void refusedWithoutTrain() {
        GhostTrain x = new GhostTrain();
        x.row(0, 0, 5);
        C.due("show", x.show(99, 9), Check.STATE);
        C.due("over", x.over(), Check.STATE);
        C.due("order", x.order(0, -5), Check.STATE);
        C.due("calm", x.calm(0, 9), Check.STATE);
        C.due("sets", x.sets(-1, 9), Check.STATE);
        C.due("byTurns", x.byTurns(-1, 0), Check.STATE);
        C.due("drawn", x.drawn(-1, 0, 9), Check.STATE);
        C.due("image", x.image(0), Check.STATE);
        C.due("BAD ahead of STATE", x.image(5), Check.BAD);
        C.due("ahead", x.ahead(0, 0, 0), Check.BAD);
        C.due("when", x.when(0, 0), Check.BAD);
        C.due("spot", x.spot(0, 1, 0), Check.BAD);
        C.due("bears", x.bears(0, 1), Check.BAD);
        C.due("share", x.share(0, 1), Check.BAD);
        C.due("who", x.who(0, 0, 0, 0, 0, 1), Check.BAD);
        C.due("nerves", x.nerves(0, 0, 0, 0, 1), Check.BAD);
        C.due("fails", x.fails(0, 0, 0, 0), Check.BAD);
    }

    private static void nothingChanges() {
        GhostTrain x = Check.of("g6;s1,5;b0,1;h2,2;m3,1;o4,2;c1,5,1;c2,9,2;c3,20,3;");
        x.ticks(2);
        x.row(0, 0, 3);
        String before = look(x);
        x.ahead(0, 60, 0);
        x.show(60, 0);
        x.when(0, 2);
        x.over();
        x.order(50, 0);
        x.spot(0, 50, 0);
        x.calm(50, 0);
        x.bears(0, 50);
        x.byTurns(4, 20);
        for (int which = 0; which < 3; which++) {
            x.who(0, which, 0, 0, 0, 3);
        }
        x.nerves(0, 0, 0, 0, 3);
        x.fails(0, 60, 5, 0);
        x.drawn(60, 77, 0);
        x.image(0);
        C.due("nothing changes", before.equals(look(x)) ? 1 : 0, 1);
    }

    private static String look(GhostTrain x) {
        StringBuilder seen = new StringBuilder();
        for (int what = 0; what < 9; what++) {
            seen.append(x.count(what)).append(' ');
        }
        for (int trick = 0; trick < x.count(1); trick++) {
            seen.append(x.kind(trick)).append(' ');
            for (int what = 0; what < 4; what++) {
                seen.append(x.trick(trick, what)).append(' ');
            }
        }
        for (int car = 0; car < x.count(2); car++) {
            for (int what = 0; what < 7; what++) {
                seen.append(x.car(car, what)).append(' ');
            }
        }
        return seen.toString();
    }
}
