/** Promises 9 to 18: what is done, and how cars go and are frightened. */
public final class DoneTest {
    private static final Check C = new Check("DoneTest");
    private static final int MIN = Integer.MIN_VALUE, MAX = Integer.MAX_VALUE;
    private static final String TWO = "g4;s1,2;c1,5,1;c2,5,2;";

    public static void main(String[] args) {
        ticks();
        ticksRefused();
        pace();
        kinds();
        hands();
        screams();
        screamsAtOnce();
        place();
        flip();
        nerve();
        again();
        undo();
        undoKeeps24();
        asked();
        C.end();
    }

    private static void dueCar(String what, GhostTrain x, int car, int... fields) {
        for (int i = 0; i < fields.length; i++) {
            C.due(what + " car(" + car + ", " + (3 + i) + ")", x.car(car, 3 + i), fields[i]);
        }
    }

    private static void ticks() {
        GhostTrain x = Check.of(TWO);
        C.due("ticks(1)", x.ticks(1), 0);
        dueCar("1", x, 0, 0, 0, 0, 0);
        dueCar("1", x, 1, 20, 0, 0, 0);
        C.due("ticks(1)", x.ticks(1), 0);
        dueCar("2", x, 0, 1, 2, 0, 0);
        dueCar("2", x, 1, 0, 0, 0, 0);
        C.due("met", x.trick(0, 3), 1);
        C.due("ticks(1)", x.ticks(1), 0);
        dueCar("3", x, 0, 2, 2, 0, 0);
        dueCar("3 behind another one", x, 1, 1, 2, 0, 0);
        C.due("met", x.trick(0, 3), 2);
        C.due("ticks(1)", x.ticks(1), 0);
        dueCar("4", x, 0, 3, 2, 0, 0);
        dueCar("4", x, 1, 2, 2, 0, 0);
        C.due("count(3)", x.count(3), 4);
        C.due("ticks(1)", x.ticks(1), 3);
        dueCar("5 fear stays", x, 0, 21, 2, 0, 0);
        dueCar("5 two cells on", x, 1, 21, 2, 0, 0);
        C.due("count(4)", x.count(4), 2);
        C.due("count(6)", x.count(6), 4);
        C.due("count(7)", x.count(7), 5);
        C.due("ticks(24)", x.ticks(24), 3);
        C.due("count(3)", x.count(3), 29);
        GhostTrain y = Check.of("g4;s3,1;c1,9,3;c1,9,1;");
        C.due("ticks(3) only car 0", y.ticks(3), 1);
        C.due("cell(0, 0)", y.cell(1, 0), 1);
    }

    private static void ticksRefused() {
        GhostTrain x = new GhostTrain();
        C.due("STATE ahead of BAD", x.ticks(0), Check.STATE);
        C.due("STATE", x.ticks(1), Check.STATE);
        Check.tell(x, TWO);
        int[] bad = {0, -1, 25, MIN, MAX};
        for (int n : bad) {
            C.due("ticks(" + n + ")", x.ticks(n), Check.BAD);
        }
        for (int i = 0; i < 41; i++) {
            x.ticks(24);
        }
        C.due("count(3)", x.count(3), 984);
        C.due("ticks(16)", x.ticks(16), Check.FULL);
        C.due("count(3) yet", x.count(3), 984);
        C.due("ticks(15)", x.ticks(15), 3);
        C.due("ticks(1)", x.ticks(1), Check.FULL);
        C.due("BAD ahead of FULL", x.ticks(25), Check.BAD);
        C.due("undo()", x.undo(), 23);
        C.due("ticks(1)", x.ticks(1), 3);
    }

    private static void pace() {
        GhostTrain x = Check.of("g7;s6,1;c1,9,3;c1,9,2;c1,9,1;");
        x.ticks(3);
        dueCar("pace 3", x, 0, 6);
        dueCar("pace 2", x, 1, 2);
        dueCar("pace 1", x, 2, 0);
        C.due("out", x.ticks(1), 1);
        dueCar("pace 2", x, 1, 4);
        dueCar("pace 1", x, 2, 1);
        // a car in cell 0 that is held up keeps the next one waiting
        GhostTrain y = Check.of("g4;s1,5;c1,5,1;c1,9,1;c1,9,1;");
        y.ticks(3);
        dueCar("halted", y, 0, 1, 0, 1, 0);
        dueCar("blocked", y, 1, 0, 0, 0, 0);
        dueCar("waits", y, 2, 20);
        y.ticks(1);
        dueCar("goes on", y, 0, 2, 0, 1, 0);
        dueCar("goes on behind", y, 1, 1, 5, 0, 0);
        dueCar("comes in", y, 2, 0);
    }

    private static int fearBy(String trick, int riders, int car) {
        GhostTrain x = Check.of("g4;" + trick + ";c" + riders + ",60,1;c" + riders + ",60,1;");
        x.ticks(car + 1);
        return x.car(car, 4);
    }

    private static void kinds() {
        C.due("a skeleton", fearBy("s0,3", 4, 0), 3);
        C.due("a bat, once", fearBy("b0,3", 4, 0), 0);
        C.due("a bat, twice", fearBy("b0,3", 4, 1), 3);
        C.due("a mirror", fearBy("m0,3", 4, 0), 12);
        C.due("a mirror of one", fearBy("m0,3", 1, 1), 3);
        C.due("a ghost at tick 0", fearBy("o0,3", 4, 0), 0);
        C.due("a ghost at tick 1", fearBy("o0,3", 4, 1), 12);
        C.due("a hand of one alone", fearBy("h0,3", 4, 0), 6);
        C.due("a hand of one among two", fearBy("h0,3", 4, 1), 3);
        GhostTrain x = Check.of("g4;b0,1;b0,2;m0,3;s0,4;o1,5;c2,60,1;c2,60,1;c2,60,1;");
        x.ticks(3);
        dueCar("all in one cell, the ghost at tick 1", x, 0, 2, 20, 0, 0);
        dueCar("bats even, the ghost at tick 2", x, 1, 1, 13, 0, 0);
        dueCar("bats odd", x, 2, 0, 10, 0, 0);
        C.due("met of the first", x.trick(0, 3), 3);
        C.due("met of the ghost", x.trick(4, 3), 2);
        GhostTrain y = Check.of("g12;o3,2;o4,1;o5,3;c1,60,1;");
        int[] fears = {0, 0, 0, 2, 2, 5};
        for (int i = 0; i < fears.length; i++) {
            y.ticks(1);
            C.due("ghosts behind " + y.count(3) + " ticks", y.car(0, 4), fears[i]);
        }
        y.ticks(6);
        C.due("it runs in cell 11", y.stand(2), 1);
        C.due("cell(11, 0)", y.cell(11, 0), 0);
    }

    private static void hands() {
        GhostTrain x = Check.of("g4;h3,2;c1,60,3;c1,60,1;");
        x.ticks(2);
        dueCar("alone, the other one yet to come", x, 0, 3, 4);
        x.ticks(3);
        dueCar("alone, the other one out", x, 1, 3, 4);
        GhostTrain y = Check.of("g4;h1,2;c1,60,3;c1,60,1;");
        y.ticks(2);
        dueCar("alone on the way", y, 0, 3, 4);
        y.ticks(1);
        dueCar("alone, the other one just out", y, 1, 1, 4);
        GhostTrain z = Check.of("g4;h2,2;c1,60,1;c1,60,1;");
        z.ticks(3);
        dueCar("not alone", z, 0, 2, 2);
    }

    private static void screams() {
        GhostTrain x = Check.of("g4;s1,5;c1,5,3;");
        x.ticks(2);
        dueCar("stops where it screams", x, 0, 1, 0, 1, 1);
        x.ticks(1);
        dueCar("stays", x, 0, 1, 0, 1, 0);
        C.due("out", x.ticks(1), 1);
        dueCar("out", x, 0, 21, 0, 1, 0);
        GhostTrain y = Check.of("g4;s0,4;s1,1;c1,5,1;");
        y.ticks(1);
        dueCar("not yet", y, 0, 0, 4, 0, 0);
        y.ticks(1);
        dueCar("nerve is enough", y, 0, 1, 0, 1, 1);
        GhostTrain z = Check.of("g4;s0,3;c1,2,1;c1,2,1;");
        z.ticks(2);
        dueCar("halted in cell 0", z, 0, 0, 0, 1, 0);
        dueCar("waits", z, 1, 20, 0, 0, 0);
        z.ticks(1);
        dueCar("on", z, 0, 1, 0, 1, 0);
        dueCar("the next", z, 1, 0, 0, 1, 1);
        C.due("count(5)", z.count(5), 2);
    }

    private static void screamsAtOnce() {
        GhostTrain x = Check.of("g4;s0,3;s0,3;c1,3,1;");
        x.ticks(1);
        dueCar("once behind all tricks", x, 0, 0, 0, 1, 1);
        C.due("met of both", x.trick(1, 3), 1);
        GhostTrain y = Check.of("g4;s0,5;c1,9,1;");
        y.ticks(1);
        y.nerve(0, 5);
        dueCar("not for the nerve alone", y, 0, 0, 5, 0, 0);
        y.ticks(1);
        dueCar("in a cell without tricks", y, 0, 1, 0, 1, 1);
    }

    private static void place() {
        GhostTrain x = Check.of("g4;s1,2;b2,3;c1,60,1;");
        C.due("place(0, 3)", x.place(0, 3), 1);
        C.due("trick(0, 0)", x.trick(0, 0), 3);
        C.due("place(0, 3) again", x.place(0, 3), Check.STATE);
        C.due("count(7)", x.count(7), 1);
        C.due("place(0, 2)", x.place(0, 2), 3);
        C.due("cell(2, 1)", x.cell(2, 1), 3);
        C.due("place(0, 0)", x.place(0, 0), 2);
        int[][] bad = {{2, 0}, {-1, 0}, {0, 4}, {0, -1}, {MAX, 0}, {0, MAX}, {MIN, MIN}, {0, 5}};
        for (int[] one : bad) {
            C.due("place(" + one[0] + ", " + one[1] + ")", x.place(one[0], one[1]), Check.BAD);
        }
        C.due("count(7)", x.count(7), 3);
        x.ticks(1);
        dueCar("meets it there", x, 0, 0, 2);
        C.due("place(1, 0)", x.place(1, 0), 2);
        dueCar("is not met by who is there", x, 0, 0, 2);
        C.due("met", x.trick(1, 3), 0);
        C.due("undo()", x.undo(), 4);
        C.due("where it was", x.trick(1, 0), 2);
    }

    private static void flip() {
        GhostTrain x = Check.of("g4;s0,2;s1,3;c1,60,1;");
        C.due("flip(0)", x.flip(0), 0);
        C.due("trick(0, 2)", x.trick(0, 2), 0);
        C.due("stand(4)", x.stand(4), 2);
        C.due("cell(0, 1) yet", x.cell(0, 1), 1);
        x.ticks(1);
        dueCar("off", x, 0, 0, 0);
        C.due("met", x.trick(0, 3), 0);
        C.due("flip(0)", x.flip(0), 1);
        C.due("flip(1)", x.flip(1), 0);
        C.due("stand(4)", x.stand(4), 1);
        C.due("flip(2)", x.flip(2), Check.BAD);
        C.due("flip(-1)", x.flip(-1), Check.BAD);
        C.due("count(7)", x.count(7), 4);
        C.due("undo()", x.undo(), 3);
        C.due("stand(4)", x.stand(4), 3);
        C.due("undo()", x.undo(), 2);
        C.due("stand(4)", x.stand(4), 2);
    }

    private static void nerve() {
        GhostTrain x = Check.of(TWO);
        C.due("nerve(0, 60)", x.nerve(0, 60), 5);
        C.due("nerve(0, 1)", x.nerve(0, 1), 60);
        C.due("car(0, 1)", x.car(0, 1), 1);
        C.due("car(1, 1)", x.car(1, 1), 5);
        int[][] bad = {{2, 5}, {-1, 5}, {0, 0}, {0, 61}, {0, -5}, {MAX, 1}, {0, MAX}};
        for (int[] one : bad) {
            C.due("nerve(" + one[0] + ", " + one[1] + ")", x.nerve(one[0], one[1]), Check.BAD);
        }
        C.due("count(7)", x.count(7), 2);
        x.ticks(2);
        dueCar("screams", x, 0, 1, 0, 1, 1);
        x.undo();
        x.undo();
        C.due("undo()", x.undo(), 1);
        C.due("car(0, 1)", x.car(0, 1), 60);
    }

    private static void again() {
        GhostTrain x = Check.of("g4;s1,5;s3,2;c1,5,3;c1,60,1;c1,60,1;c1,60,1;");
        C.due("again(0) that waits", x.again(0), Check.STATE);
        x.ticks(2);
        C.due("again(0) that runs", x.again(0), Check.STATE);
        C.due("again(4)", x.again(4), Check.BAD);
        C.due("again(-1)", x.again(-1), Check.BAD);
        x.ticks(2);
        dueCar("out with fear", x, 0, 21, 2, 1, 0);
        C.due("again(0)", x.again(0), 9);
        dueCar("waits", x, 0, 20, 0, 1, 0);
        C.due("stand(1)", x.stand(1), 9);
        x.ticks(1);
        dueCar("ahead of car 3", x, 0, 0, 0, 1, 0);
        dueCar("by rank", x, 3, 20);
        x.undo();
        C.due("undo()", x.undo(), 4);
        dueCar("out as it was", x, 0, 21, 2, 1, 0);
    }

    private static void undo() {
        GhostTrain x = Check.of("g4;s1,5;b0,1;c1,5,1;c1,9,2;");
        x.ticks(3);
        int[] before = look(x);
        x.ticks(3);
        C.due("undo()", x.undo(), 5);
        C.due("undo()", x.undo(), 4);
        C.due("undo()", x.undo(), 3);
        dueLook("as it was", x, before);
        C.due("undo()", x.undo(), 2);
        C.due("undo()", x.undo(), 1);
        C.due("undo()", x.undo(), 0);
        C.due("undo()", x.undo(), Check.STATE);
        C.due("count(3)", x.count(3), 0);
        C.due("stand(1)", x.stand(1), 3);
        C.due("ticks(3)", x.ticks(3), 0);
        dueLook("the same again", x, before);
    }

    private static int[] look(GhostTrain x) {
        int[] seen = new int[2 * 7 + 2 * 4 + 4 + 1];
        int i = 0;
        for (int car = 0; car < 2; car++) {
            for (int what = 0; what < 7; what++) {
                seen[i++] = x.car(car, what);
            }
        }
        for (int trick = 0; trick < 2; trick++) {
            for (int what = 0; what < 4; what++) {
                seen[i++] = x.trick(trick, what);
            }
        }
        for (int cell = 0; cell < 4; cell++) {
            seen[i++] = x.cell(cell, 0);
        }
        seen[i] = x.count(3);
        return seen;
    }

    private static void dueLook(String what, GhostTrain x, int[] want) {
        int[] got = look(x);
        for (int i = 0; i < want.length; i++) {
            C.due(what + ", " + i, got[i], want[i]);
        }
    }

    private static void undoKeeps24() {
        GhostTrain x = Check.of(TWO);
        for (int v = 1; v <= 26; v++) {
            x.nerve(0, v);
        }
        C.due("count(7)", x.count(7), 24);
        for (int left = 23; left >= 0; left--) {
            C.due("undo()", x.undo(), left);
            C.due("nerve then", x.car(0, 1), left + 2);
        }
        C.due("undo() of what is forgotten", x.undo(), Check.STATE);
        C.due("nerve yet", x.car(0, 1), 2);
        x.ticks(24);
        x.flip(0);
        C.due("count(7)", x.count(7), 24);
        C.due("undo()", x.undo(), 23);
        for (int i = 0; i < 23; i++) {
            x.undo();
        }
        C.due("tick 1 is left", x.count(3), 1);
        C.due("count(7)", x.count(7), 0);
    }

    private static void asked() {
        GhostTrain x = Check.of("g5;s1,2;b1,3;h4,1;c1,5,1;c2,6,3;c3,60,1;");
        x.ticks(3);
        C.due("cell(2, 0)", x.cell(2, 0), 0);
        C.due("cell(1, 0)", x.cell(1, 0), 1);
        C.due("cell(0, 0)", x.cell(0, 0), 2);
        C.due("cell(3, 0)", x.cell(3, 0), Check.NONE);
        C.due("cell(1, 1)", x.cell(1, 1), 3);
        C.due("cell(4, 1)", x.cell(4, 1), 4);
        C.due("cell(0, 1)", x.cell(0, 1), 0);
        int[][] bad = {{5, 0}, {-1, 0}, {0, 2}, {0, -1}, {12, 1}, {MAX, 0}};
        for (int[] one : bad) {
            C.due("cell(" + one[0] + ", " + one[1] + ")", x.cell(one[0], one[1]), Check.BAD);
        }
        int[] stands = {5, 0, 7, 0, 7};
        for (int what = 0; what < 5; what++) {
            C.due("stand(" + what + ")", x.stand(what), stands[what]);
        }
        C.due("stand(5)", x.stand(5), Check.BAD);
        C.due("stand(-1)", x.stand(-1), Check.BAD);
        C.due("stand(9) without a train", new GhostTrain().stand(9), Check.STATE);
        int[][] badTricks = {{3, 0}, {-1, 0}, {0, 4}, {0, -1}, {MAX, 0}, {0, MIN}};
        for (int[] one : badTricks) {
            C.due("trick(" + one[0] + ", " + one[1] + ")", x.trick(one[0], one[1]), Check.BAD);
        }
        int[][] badCars = {{3, 0}, {-1, 0}, {0, 7}, {0, -1}, {MAX, 0}, {0, MIN}};
        for (int[] one : badCars) {
            C.due("car(" + one[0] + ", " + one[1] + ")", x.car(one[0], one[1]), Check.BAD);
        }
        x.ticks(2);
        C.due("stand(3)", x.stand(3), 0);
        x.ticks(1);
        C.due("stand(3), car 1 screams in the last cell", x.stand(3), 1);
        C.due("stand(2)", x.stand(2), 6);
    }
}
