/** Promises 36 to 41: what is asked. */
public final class AskedTest {
    private static final Check C = new Check("AskedTest");
    private static final int MIN = Integer.MIN_VALUE, MAX = Integer.MAX_VALUE;
    private static final String ALL = "g8;s2,4;b0,6;h3,5;m5,3;o6,7;c1,60,1;c1,60,1;c1,60,1;";

    public static void main(String[] args) {
        kind();
        as();
        ask();
        askBehindTicks();
        trace();
        count();
        C.end();
    }

    private static void kind() {
        GhostTrain x = Check.of(ALL);
        for (int one = 0; one < 5; one++) {
            C.due("kind(" + one + ")", x.kind(one), one + 1);
        }
        int[] bad = {-1, 5, MAX, MIN};
        for (int one : bad) {
            C.due("kind(" + one + ")", x.kind(one), Check.BAD);
        }
        C.due("kind(0) without a train", new GhostTrain().kind(0), Check.BAD);
    }

    private static void as() {
        GhostTrain x = Check.of(ALL);
        boolean[][] is = {
            {true, true, false, false, false, false},
            {true, true, true, false, false, false},
            {true, true, false, true, false, false},
            {true, false, false, false, true, false},
            {true, false, false, false, true, true}};
        for (int one = 0; one < 5; one++) {
            for (int kind = 0; kind < 6; kind++) {
                String call = "as(" + one + ", " + kind + ")";
                C.due(call, x.as(one, kind), is[one][kind] ? one : Check.KIND);
                C.due("status() of " + call, x.status(), is[one][kind] ? 0 : 3);
            }
        }
        x.as(0, 5);
        int[][] bad = {{5, 0}, {-1, 0}, {0, 6}, {0, -1}, {MAX, 0}, {0, MAX}};
        for (int[] b : bad) {
            C.due("as(" + b[0] + ", " + b[1] + ")", x.as(b[0], b[1]), Check.BAD);
            C.due("status() yet", x.status(), 3);
        }
    }

    private static void dueAsk(GhostTrain x, int one, int what, int answer, int... bodies) {
        String call = "ask(" + one + ", " + what + ")";
        C.due(call, x.ask(one, what), answer);
        for (int i = 0; i < bodies.length; i++) {
            C.due("trace(" + i + ") of " + call, x.trace(i), bodies[i]);
        }
        C.due("the end of the trace of " + call, x.trace(bodies.length), Check.NONE);
    }

    private static void ask() {
        GhostTrain x = Check.of(ALL);
        dueAsk(x, 0, 0, 4, 11, 10, 21, 20);
        dueAsk(x, 1, 0, -8, 12, 11, 10, 24, 21, 20);
        dueAsk(x, 2, 0, -993, 11, 10, 22, 21, 20);
        dueAsk(x, 3, 0, -97, 13, 10);
        dueAsk(x, 4, 0, -186, 14, 13, 10);
        dueAsk(x, 0, 1, 0, 21, 20);
        dueAsk(x, 1, 1, 2, 24, 21, 20);
        dueAsk(x, 2, 1, -998, 22, 21, 20);
        dueAsk(x, 3, 1, 100, 23, 20, 13, 10);
        dueAsk(x, 4, 1, 190, 23, 20, 14, 13, 10);
    }

    private static void askBehindTicks() {
        GhostTrain x = Check.of(ALL);
        x.ticks(5);
        int[] met = {3, 3, 2, 0, 0};
        for (int one = 0; one < 5; one++) {
            C.due("met of " + one, x.trick(one, 3), met[one]);
        }
        dueAsk(x, 0, 0, 4 + 3, 11, 10, 21, 20);
        dueAsk(x, 1, 0, -(6 + 2 * (1 + 3)), 12, 11, 10, 24, 21, 20);
        dueAsk(x, 2, 0, 5 + 2 + 2 - 1000, 11, 10, 22, 21, 20);
        dueAsk(x, 0, 1, 3, 21, 20);
        dueAsk(x, 1, 1, 8, 24, 21, 20);
        dueAsk(x, 2, 1, -996, 22, 21, 20);
    }

    private static void trace() {
        GhostTrain x = Check.of(ALL);
        C.due("trace(0) before an ask", x.trace(0), Check.NONE);
        x.ask(4, 0);
        int[][] bad = {{5, 0}, {-1, 0}, {0, 2}, {0, -1}, {MAX, 0}, {0, MIN}};
        for (int[] b : bad) {
            C.due("ask(" + b[0] + ", " + b[1] + ")", x.ask(b[0], b[1]), Check.BAD);
        }
        C.due("trace(0) yet", x.trace(0), 14);
        C.due("trace(2) yet", x.trace(2), 10);
        int[] none = {-1, 3, 15, 16, 17, MAX, MIN};
        for (int i : none) {
            C.due("trace(" + i + ")", x.trace(i), Check.NONE);
        }
        x.ask(0, 1);
        C.due("trace(2) is empty ahead", x.trace(2), Check.NONE);
    }

    private static void count() {
        GhostTrain x = Check.of("g4;s1,5;s0,2;c1,5,3;c1,60,1;");
        x.row(3, 0, 2);
        x.row(5, 1, 2);
        x.ticks(4);
        x.feed('g');
        x.feed('4');
        x.feed(';');
        // car 0 screams in cell 1, and is out; car 1 had 2 in cell 0, 5 in cell 1
        int[] due = {2, 2, 2, 4, 1, 1, 7, 4, 3};
        for (int what = 0; what < 9; what++) {
            C.due("count(" + what + ")", x.count(what), due[what]);
        }
        int[] bad = {-1, 9, MAX, MIN};
        for (int what : bad) {
            C.due("count(" + what + ")", x.count(what), Check.BAD);
        }
    }
}
