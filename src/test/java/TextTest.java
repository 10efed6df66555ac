/** Promises 1 and 6 to 8: a new object, what is told. */
public final class TextTest {
    private static final Check C = new Check("TextTest");
    private static final String SMALL = "g4;s0,1;c1,1,1;";

    public static void main(String[] args) {
        anew();
        feed();
        read();
        faults();
        faultsLeaveAll();
        trainAnew();
        C.end();
    }

    private static void anew() {
        GhostTrain x = new GhostTrain();
        for (int what = 0; what <= 8; what++) {
            C.due("count(" + what + ") anew", x.count(what), 0);
        }
        C.due("stand(0) anew", x.stand(0), Check.STATE);
        C.due("status() anew", x.status(), 0);
        C.due("fault() anew", x.fault(), 0);
        C.due("undo() anew", x.undo(), Check.STATE);
        C.due("trick(0, 0) anew", x.trick(0, 0), Check.BAD);
        C.due("car(0, 0) anew", x.car(0, 0), Check.BAD);
        C.due("cell(0, 0) anew", x.cell(0, 0), Check.BAD);
        C.due("trace(0) anew", x.trace(0), Check.NONE);
        C.due("restore(0) anew", x.restore(0), Check.STATE);
        for (int row = 0; row < 8; row++) {
            C.due("row " + row + " anew", x.set(row, 0, 0), Check.NULL);
        }
    }

    private static void feed() {
        GhostTrain x = new GhostTrain();
        C.due("feed(-1)", x.feed(-1), Check.BAD);
        C.due("feed(256)", x.feed(256), Check.BAD);
        C.due("feed(0)", x.feed(0), 1);
        C.due("feed(255)", x.feed(255), 2);
        for (int i = 3; i <= 100; i++) {
            C.due("feed " + i, x.feed('g'), i);
        }
        C.due("feed 101", x.feed('g'), Check.FULL);
        C.due("BAD ahead of FULL", x.feed(256), Check.BAD);
        C.due("count(8)", x.count(8), 100);
        C.due("train()", x.train(), -1000100);
        C.due("count(8) then", x.count(8), 0);
        C.due("feed then", x.feed('g'), 1);
    }

    private static void read() {
        GhostTrain x = new GhostTrain();
        C.due("train()", Check.tell(x, "g12;s11,9;b00,1;h05,3;m1,4;o2,7;c1,60,1;c4,1,3;c2,07,02;"), 5);
        int[][] tricks = {{1, 11, 9}, {2, 0, 1}, {3, 5, 3}, {4, 1, 4}, {5, 2, 7}};
        for (int t = 0; t < 5; t++) {
            C.due("kind of " + t, x.kind(t), tricks[t][0]);
            C.due("cell of " + t, x.trick(t, 0), tricks[t][1]);
            C.due("power of " + t, x.trick(t, 1), tricks[t][2]);
            C.due("on of " + t, x.trick(t, 2), 1);
            C.due("met of " + t, x.trick(t, 3), 0);
        }
        int[][] cars = {{1, 60, 1}, {4, 1, 3}, {2, 7, 2}};
        for (int c = 0; c < 3; c++) {
            for (int what = 0; what < 3; what++) {
                C.due("car(" + c + ", " + what + ")", x.car(c, what), cars[c][what]);
            }
            C.due("where " + c, x.car(c, 3), 20);
            C.due("fear " + c, x.car(c, 4), 0);
            C.due("screams " + c, x.car(c, 5), 0);
            C.due("halted " + c, x.car(c, 6), 0);
        }
        C.due("cells", x.stand(0), 12);
        C.due("no trick 5", x.trick(5, 0), Check.BAD);
        C.due("no car 3", x.car(3, 0), Check.BAD);
        C.due("fault() without one", x.fault(), 0);
    }

    private static void due(String text, int place, int number) {
        GhostTrain x = new GhostTrain();
        C.due("train() of " + text, Check.tell(x, text), -1000100 - place);
        C.due("fault() of " + text, x.fault(), number);
        C.due("no train by " + text, x.stand(0), Check.STATE);
        C.due("tape empty behind " + text, x.count(8), 0);
    }

    private static void faults() {
        due("", 0, 1);
        due("s0,1;", 0, 1);
        due("G4;", 0, 1);
        due(" g4;", 0, 1);
        due("g", 1, 1);
        due("g;", 1, 1);
        due("g 4;", 1, 1);
        due("g3;", 1, 2);
        due("g03;", 1, 2);
        due("g00;", 1, 2);
        due("g13;", 1, 2);
        due("g99;", 1, 2);
        due("g004;", 1, 1);
        due("g4444;", 1, 1);
        due("g4", 2, 1);
        due("g12", 3, 1);
        due("g4,", 2, 1);
        due("g4;", 3, 1);
        due("g4;c1,1,1;", 3, 1);
        due("g4;g4;", 3, 1);
        due("g4;x0,1;", 3, 1);
        due("g4;S0,1;", 3, 1);
        due("g4;1", 3, 1);
        due("g4;s", 4, 1);
        due("g4;s,", 4, 1);
        due("g4;s4,1;", 4, 2);
        due("g4;s99,0;", 4, 2);
        due("g12;s12,1;", 5, 2);
        due("g4;s000,1;", 4, 1);
        due("g4;s0;", 5, 1);
        due("g4;s0,;", 6, 1);
        due("g4;s0,0;", 6, 2);
        due("g4;s0,10;", 6, 2);
        due("g4;s0,1,", 7, 1);
        due("g4;s0,1", 7, 1);
        due("g4;s0,1;", 8, 1);
        due("g4;ss0,1;", 4, 1);
        due("g4;s0,1;s", 9, 1);
        due("g4;s0,1;x", 8, 1);
        due("g4;s0,1;\u00e9", 8, 1);
        due("g4;s0,1;c", 9, 1);
        due("g4;s0,1;c0,1,1;", 9, 2);
        due("g4;s0,1;c5,1,1;", 9, 2);
        due("g4;s0,1;c1;", 10, 1);
        due("g4;s0,1;c1,0,1;", 11, 2);
        due("g4;s0,1;c1,61,1;", 11, 2);
        due("g4;s0,1;c1,600,1;", 11, 1);
        due("g4;s0,1;c1,60;", 13, 1);
        due("g4;s0,1;c1,1,0;", 13, 2);
        due("g4;s0,1;c1,1,4;", 13, 2);
        due("g4;s0,1;c1,1,1", 14, 1);
        due("g4;s0,1;c1,1,1,", 14, 1);
        due(SMALL + "s0,1;", 15, 1);
        due(SMALL + ";", 15, 1);
        due(SMALL + "c", 16, 1);
        due(SMALL + SMALL, 15, 1);
        String five = "g4;s0,1;b0,1;h0,1;m0,1;o0,1;";
        due(five + "s0,1;c1,1,1;", five.length(), 3);
        due(five + "o9,9;", five.length(), 3);
        due(five + "x", five.length(), 1);
        due(five, five.length(), 1);
        String six = SMALL + "c1,1,1;c1,1,1;c1,1,1;c1,1,1;c1,1,1;";
        due(six + "c1,1,1;", six.length(), 3);
        due(six + "c", six.length(), 3);
        due(six + "s0,1;", six.length(), 1);
        due(six + "7", six.length(), 1);
        C.due("five tricks", Check.tell(new GhostTrain(), five + "c1,1,1;"), 5);
        C.due("six cars", Check.tell(new GhostTrain(), six), 1);
    }

    private static void faultsLeaveAll() {
        GhostTrain x = Check.of("g5;s0,1;b1,2;c1,9,1;c2,9,2;");
        x.ticks(3);
        C.due("a fault", Check.tell(x, "g12;m0,1;c4,0,3;"), -1000112);
        C.due("fault()", x.fault(), 2);
        C.due("cells stay", x.stand(0), 5);
        C.due("kind stays", x.kind(0), 1);
        C.due("tick stays", x.count(3), 3);
        C.due("acts stay", x.count(7), 3);
        C.due("another fault", Check.tell(x, "g12"), -1000103);
        C.due("fault() of the latest", x.fault(), 1);
        C.due("a train", Check.tell(x, SMALL), 1);
        C.due("fault() stays", x.fault(), 1);
    }

    private static void trainAnew() {
        GhostTrain x = Check.of("g4;s0,5;s1,5;c1,5,1;c2,5,2;");
        x.ticks(5);
        x.flip(0);
        x.place(1, 3);
        C.due("another train", Check.tell(x, "g6;b2,3;c3,8,2;c1,2,3;"), 1);
        C.due("tricks", x.count(1), 1);
        C.due("cars", x.count(2), 2);
        C.due("tick", x.count(3), 0);
        C.due("out", x.count(4), 0);
        C.due("screams", x.count(5), 0);
        C.due("fear", x.count(6), 0);
        C.due("acts", x.count(7), 0);
        C.due("undo()", x.undo(), Check.STATE);
        C.due("all wait", x.stand(1), 3);
        C.due("none runs", x.stand(2), 0);
        C.due("all on", x.stand(4), 1);
        C.due("met", x.trick(0, 3), 0);
        for (int cell = 0; cell < 6; cell++) {
            C.due("nobody in " + cell, x.cell(cell, 0), Check.NONE);
        }
        for (int car = 0; car < 2; car++) {
            C.due("not halted", x.car(car, 6), 0);
        }
    }
}
