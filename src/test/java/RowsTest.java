/** Promises 2 to 5, and 41 as far as rows go. */
public final class RowsTest {
    private static final Check C = new Check("RowsTest");
    private static final int MIN = Integer.MIN_VALUE, MAX = Integer.MAX_VALUE;

    public static void main(String[] args) {
        row();
        set();
        copy();
        copyPlaces();
        drop();
        status();
        C.end();
    }

    /** Fear of the one car is 1, 3, 6 in three ticks, with each nerve above 6: so items can be read back. */
    private static GhostTrain reader() {
        return Check.of("g12;s0,1;s1,2;s2,3;c1,60,1;");
    }

    private static void dueItems(String what, GhostTrain x, int row, int i) {
        C.due(what, x.nerves(0, 0, row, i, 3), 54);
    }

    private static void row() {
        GhostTrain x = reader();
        C.due("row(0, 0, 3)", x.row(0, 0, 3), 3);
        C.due("row(7, 2, 40)", x.row(7, 2, 40), 40);
        C.due("row(1, 1, 0)", x.row(1, 1, 0), 0);
        C.due("count(0) of three rows", x.count(0), 3);
        C.due("row(8, 0, 1)", x.row(8, 0, 1), Check.BAD);
        C.due("row(-1, 0, 1)", x.row(-1, 0, 1), Check.BAD);
        C.due("row(0, -1, 1)", x.row(0, -1, 1), Check.BAD);
        C.due("row(0, 3, 1)", x.row(0, 3, 1), Check.BAD);
        C.due("row(0, 0, 41)", x.row(0, 0, 41), Check.BAD);
        C.due("row(0, 0, MAX)", x.row(0, 0, MAX), Check.BAD);
        C.due("row(0, 0, -1)", x.row(0, 0, -1), Check.SIZE);
        C.due("row(0, 2, MIN)", x.row(0, 2, MIN), Check.SIZE);
        C.due("row(8, 0, -1)", x.row(8, 0, -1), Check.BAD);
        C.due("row(0, 3, -1)", x.row(0, 3, -1), Check.BAD);
        C.due("the row is there yet", x.set(0, 2, 1), 1);
        C.due("count(0) yet", x.count(0), 3);
        Check.fill(x, 2, 0, 1, 3, 6);
        dueItems("row of bytes", x, 2, 0);
        C.due("a row in place of it", x.row(2, 0, 3), 3);
        C.due("its items are 0: nerve 1, that screams in each cell, fits", x.nerves(0, 0, 2, 0, 3), 1);
        C.due("count(0) with it", x.count(0), 4);
    }

    private static void set() {
        GhostTrain x = reader();
        C.due("set of a missing one", x.set(0, 0, 1), Check.NULL);
        x.row(0, 0, 4);
        x.row(1, 1, 4);
        x.row(2, 2, 4);
        x.row(3, 2, 0);
        int[][] bytes = {{0, 0}, {127, 127}, {128, -128}, {200, -56}, {255, -1}, {256, 0}, {-1, -1}, {-129, 127}};
        for (int[] one : bytes) {
            C.due("byte " + one[0], x.set(0, 3, one[0]), one[1]);
        }
        int[][] shorts = {{32767, 32767}, {32768, -32768}, {40000, -25536}, {65535, -1}, {65536, 0}, {-32769, 32767}};
        for (int[] one : shorts) {
            C.due("short " + one[0], x.set(1, 3, one[0]), one[1]);
        }
        int[] ints = {0, 65536, MIN, MAX, -1000001, -1000011, -1};
        for (int one : ints) {
            C.due("int " + one, x.set(2, 3, one), one);
            C.due("status of int " + one, x.status(), 0);
        }
        C.due("set(8, 0, 0)", x.set(8, 0, 0), Check.BAD);
        C.due("set(-1, 0, 0)", x.set(-1, 0, 0), Check.BAD);
        C.due("set(0, -1, 0)", x.set(0, -1, 0), Check.PLACE);
        C.due("set(0, 4, 0)", x.set(0, 4, 0), Check.PLACE);
        C.due("set(0, MAX, 0)", x.set(0, MAX, 0), Check.PLACE);
        C.due("set(0, MIN, 0)", x.set(0, MIN, 0), Check.PLACE);
        C.due("set(3, 0, 0)", x.set(3, 0, 0), Check.PLACE);
        C.due("set(7, -1, 0)", x.set(7, -1, 0), Check.NULL);
        for (int lane = 0; lane < 3; lane++) {
            Check.fill(x, lane, lane, 9, 1, 3, 6);
            dueItems("items of lane " + lane, x, lane, 1);
        }
        x.set(0, 2, 259);
        dueItems("a byte 259 is 3", x, 0, 1);
        x.set(2, 2, 259);
        C.due("an int 259 is not", x.nerves(0, 0, 2, 1, 3), 0);
    }

    private static void copy() {
        GhostTrain x = reader();
        Check.fill(x, 0, 1, 1, 3, 6, 7, 8);
        Check.fill(x, 1, 1, 0, 0, 0, 0, 0, 0);
        C.due("copy(0, 0, 1, 2, 3)", x.copy(0, 0, 1, 2, 3), 3);
        dueItems("where it came to", x, 1, 2);
        dueItems("where it came from", x, 0, 0);
        C.due("what lies before stays", x.nerves(0, 0, 1, 1, 1), 1);
        C.due("what lies behind stays", x.nerves(0, 0, 1, 5, 1), 1);
        C.due("forth within one", x.copy(0, 0, 0, 1, 3), 3);
        dueItems("as they were ahead", x, 0, 1);
        C.due("back within one", x.copy(0, 1, 0, 0, 3), 3);
        dueItems("as they were ahead, too", x, 0, 0);
        C.due("onto itself", x.copy(0, 0, 0, 0, 5), 5);
        dueItems("nothing else", x, 0, 0);
    }

    private static void copyPlaces() {
        GhostTrain x = reader();
        x.row(0, 0, 5);
        x.row(1, 0, 3);
        x.row(2, 1, 5);
        x.row(3, 0, 0);
        C.due("none", x.copy(0, 5, 1, 3, 0), 0);
        C.due("none of none", x.copy(3, 0, 3, 0, 0), 0);
        C.due("all", x.copy(0, 2, 1, 0, 3), 3);
        int[][] places = {{-1, 0, 1}, {0, -1, 1}, {0, 0, -1}, {0, 0, 4}, {3, 0, 3}, {0, 1, 3}, {6, 0, 0}, {0, 4, 0},
            {MAX, 0, 1}, {0, MAX, 1}, {1, 1, MAX}, {MIN, 0, 0}, {0, MIN, 0}, {0, 0, MIN}, {MAX, MAX, MAX}};
        for (int[] p : places) {
            C.due("copy(0, " + p[0] + ", 1, " + p[1] + ", " + p[2] + ")", x.copy(0, p[0], 1, p[1], p[2]), Check.PLACE);
            C.due("status of it", x.status(), 2);
        }
        C.due("copy(8, 0, 0, 0, 0)", x.copy(8, 0, 0, 0, 0), Check.BAD);
        C.due("copy(0, 0, 8, 0, 0)", x.copy(0, 0, 8, 0, 0), Check.BAD);
        C.due("copy(-1, 0, 0, 0, 0)", x.copy(-1, 0, 0, 0, 0), Check.BAD);
        C.due("copy(0, 0, -1, 0, 0)", x.copy(0, 0, -1, 0, 0), Check.BAD);
        C.due("BAD ahead of NULL", x.copy(7, 0, 8, 0, 0), Check.BAD);
        C.due("copy to a missing one", x.copy(0, 0, 7, 0, 0), Check.NULL);
        C.due("copy of a missing one", x.copy(7, 0, 0, 0, 0), Check.NULL);
        C.due("NULL ahead of PLACE", x.copy(7, -1, 0, 0, 0), Check.NULL);
        C.due("copy of two lanes", x.copy(0, 0, 2, 0, 1), Check.STORE);
        C.due("STORE ahead of PLACE", x.copy(0, -1, 2, 0, 1), Check.STORE);
        C.due("STORE of none, too", x.copy(2, 0, 0, 0, 0), Check.STORE);
        C.due("status of STORE", x.status(), 5);
    }

    private static void drop() {
        GhostTrain x = new GhostTrain();
        x.row(0, 0, 7);
        x.row(7, 2, 0);
        C.due("drop(0)", x.drop(0), 7);
        C.due("count(0) then", x.count(0), 1);
        C.due("drop(0) again", x.drop(0), Check.NULL);
        C.due("set then", x.set(0, 0, 0), Check.NULL);
        C.due("drop(7)", x.drop(7), 0);
        C.due("count(0) at last", x.count(0), 0);
        C.due("drop(8)", x.drop(8), Check.BAD);
        C.due("drop(-1)", x.drop(-1), Check.BAD);
        C.due("a row anew", x.row(0, 1, 2), 2);
        C.due("is there", x.drop(0), 2);
    }

    private static void status() {
        GhostTrain x = reader();
        C.due("status at first", x.status(), 0);
        x.drop(0);
        C.due("status of NULL", x.status(), 1);
        x.drop(9);
        x.row(0, 0, 41);
        x.set(-1, 0, 0);
        x.who(0, 0, 0, 0, 0, 0);
        x.nerves(0, 0, 0, 0, 13);
        x.as(0, 6);
        C.due("BAD leaves it", x.status(), 1);
        x.undo();
        x.count(0);
        x.ticks(1);
        x.undo();
        C.due("so do calls without a row", x.status(), 1);
        x.row(0, 0, 3);
        C.due("status of what is fine", x.status(), 0);
        x.row(0, 0, -1);
        C.due("status of SIZE", x.status(), 4);
        C.due("set that is fine", x.set(0, 0, 1), 1);
        C.due("status of set", x.status(), 0);
        x.as(0, 4);
        C.due("status of KIND", x.status(), 3);
        x.as(0, 1);
        C.due("status of as", x.status(), 0);
        x.set(0, 3, 1);
        C.due("status of PLACE", x.status(), 2);
        x.copy(0, 0, 0, 0, 1);
        C.due("status of copy", x.status(), 0);
        x.who(0, 0, 0, 1, 0, 1);
        C.due("status of who with NULL", x.status(), 1);
        x.who(0, 0, 0, 0, 0, 1);
        C.due("status of who", x.status(), 0);
        x.nerves(0, 0, 0, 3, 1);
        C.due("status of nerves with PLACE", x.status(), 2);
        x.set(0, 0, 99);
        x.nerves(0, 0, 0, 3, 1);
        C.due("nerves with NONE", x.nerves(0, 1, 0, 0, 3), Check.NONE);
        C.due("status of NONE", x.status(), 0);
        x.row(0, 0, -1);
        x.drop(0);
        C.due("status of drop", x.status(), 0);
    }
}
