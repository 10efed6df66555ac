/** The edges of promises 2 to 5: rows. */
public final class EdgeRowsTest {
    private static final Check C = new Check("EdgeRowsTest");
    private static final int BAD = Check.BAD, NULL = Check.NULL, PLACE = Check.PLACE, SIZE = Check.SIZE;
    private static final int STORE = Check.STORE, MIN = Check.MIN, MAX = Check.MAX;
    private static final int[] NO_ROWS = {-1, 8, MIN, MAX};
    /** Cut to bytes it is -127, to shorts -32639. */
    private static final int BITS = 0x18081;

    public static void main(String[] args) {
        Edge.runAll(EdgeRowsTest.class, C);
    }

    private static Edge anew() {
        return new Edge(C);
    }

    // ---- row

    static void promise02RowsGoFrom0To7() {
        Edge e = anew().due(1, "row", 0, 0, 1).due(2, "row", 7, 0, 2).due(2, "count", 0);
        for (int row : NO_ROWS) {
            e.refused(BAD, "row", row, 0, 1);
        }
    }

    static void promise02LanesGoFrom0To2() {
        Edge e = anew().due(1, "row", 0, 0, 1).due(-127, "set", 0, 0, BITS);
        e.due(1, "row", 0, 1, 1).due(-32639, "set", 0, 0, BITS);
        e.due(1, "row", 0, 2, 1).due(BITS, "set", 0, 0, BITS);
        for (int lane : new int[] {-1, 3, MIN, MAX}) {
            e.refused(BAD, "row", 0, lane, 1);
            e.refused(BAD, "row", 1, lane, 1);
        }
    }

    static void promise02ItemsGoFrom0To40() {
        for (int lane = 0; lane < 3; lane++) {
            Edge e = anew().due(0, "row", 0, lane, 0).due(40, "row", 1, lane, 40);
            e.due(7, "set", 1, 39, 7).refused(PLACE, "set", 0, 0, 7);
            e.refused(BAD, "row", 0, lane, 41).refused(BAD, "row", 2, lane, MAX);
            e.refused(SIZE, "row", 0, lane, -1).refused(SIZE, "row", 2, lane, MIN);
        }
    }

    static void promise02BadIsAheadOfSize() {
        Edge e = anew().fills(0, 0, 1, 2);
        e.refused(BAD, "row", 8, 0, -1).refused(BAD, "row", -1, 0, -1);
        e.refused(BAD, "row", 0, 3, -1).refused(BAD, "row", 0, -1, -1);
    }

    static void promise02SizeLeavesWhatIsThere() {
        Edge e = anew().fills(3, 1, 4, 5, 6);
        e.refused(SIZE, "row", 3, 0, -1).refused(SIZE, "row", 2, 0, -1);
        e.dueItems(3, 4, 5, 6).refused(NULL, "drop", 2);
    }

    static void promise02ItemsAre0AtFirst() {
        for (int lane = 0; lane < 3; lane++) {
            anew().due(40, "row", 5, lane, 40).dueItems(5, new int[40]);
        }
    }

    static void promise02ItStandsInPlaceOfWhatIsThere() {
        Edge e = anew().fills(0, 0, 1, 2, 3);
        e.due(3, "row", 0, 0, 3).dueItems(0, 0, 0, 0).due(1, "count", 0);
        e.fills(0, 0, 1, 2, 3).due(1, "row", 0, 0, 1).dueItems(0, 0);
        e.due(4, "row", 0, 0, 4).dueItems(0, 0, 0, 0, 0);
        e.fills(0, 0, 1, 2, 3).due(0, "row", 0, 0, 0).refused(PLACE, "set", 0, 0, 1);
        e.due(2, "row", 0, 2, 2).dueItems(0, 0, 0).due(BITS, "set", 0, 1, BITS);
    }

    static void promise02EightRowsAtOnce() {
        Edge e = anew();
        for (int row = 0; row < 8; row++) {
            e.fills(row, row % 3, row + 1, 9);
        }
        e.due(8, "count", 0);
        for (int row = 0; row < 8; row++) {
            e.dueItems(row, row + 1, 9);
        }
    }

    // ---- set

    static void promise03RowsGoFrom0To7() {
        Edge e = anew().fills(0, 0, 1).fills(7, 0, 2);
        e.due(3, "set", 0, 0, 3).due(4, "set", 7, 0, 4).dueItems(0, 3).dueItems(7, 4);
        for (int row : NO_ROWS) {
            e.refused(BAD, "set", row, 0, 5);
        }
    }

    static void promise03PlacesGoFrom0ToTheLast() {
        for (int lane = 0; lane < 3; lane++) {
            Edge e = anew().fills(1, lane, 1, 2, 3).due(8, "set", 1, 0, 8).due(9, "set", 1, 2, 9).dueItems(1, 8, 2, 9);
            for (int i : new int[] {-1, 3, 39, 40, MIN, MAX}) {
                e.refused(PLACE, "set", 1, i, 5);
            }
        }
    }

    static void promise03AnEmptyRowHasNoPlace() {
        Edge e = anew().due(0, "row", 2, 2, 0);
        e.refused(PLACE, "set", 2, 0, 5).refused(PLACE, "set", 2, -1, 5);
        e.due(1, "row", 2, 2, 1).due(5, "set", 2, 0, 5).refused(PLACE, "set", 2, 1, 5);
    }

    static void promise03AFullRowHasForty() {
        Edge e = anew().due(40, "row", 2, 1, 40).due(5, "set", 2, 39, 5).refused(PLACE, "set", 2, 40, 5);
        int[] items = new int[40];
        items[39] = 5;
        e.dueItems(2, items);
    }

    static void promise03BytesHaveEightBits() {
        int[][] cut = {{127, 127}, {128, -128}, {-128, -128}, {-129, 127}, {255, -1}, {256, 0}, {257, 1}, {-256, 0},
            {MIN, 0}, {MAX, -1}};
        dueCut(0, cut);
    }

    static void promise03ShortsHaveSixteenBits() {
        int[][] cut = {{32767, 32767}, {32768, -32768}, {-32768, -32768}, {-32769, 32767}, {65535, -1}, {65536, 0},
            {65537, 1}, {-65536, 0}, {MIN, 0}, {MAX, -1}, {128, 128}, {256, 256}};
        dueCut(1, cut);
    }

    static void promise03IntsHaveThirtyTwoBits() {
        int[][] cut = {{MAX, MAX}, {MIN, MIN}, {-1, -1}, {65536, 65536}, {-65537, -65537}, {BAD, BAD}, {NULL, NULL}};
        dueCut(2, cut);
    }

    private static void dueCut(int lane, int[][] cut) {
        Edge e = anew().due(2, "row", 4, lane, 2);
        for (int[] one : cut) {
            e.due(one[1], "set", 4, 1, one[0]).due(0, "status");
        }
        // what was cut is an item like any other
        e.due(3, "set", 4, 0, lane == 2 ? 3 : 65536 * 5 + 3).due(4, "set", 4, 1, 4).dueItems(4, 3, 4);
    }

    static void promise03AMissingRowIsNull() {
        Edge e = anew().refused(NULL, "set", 0, 0, 1).refused(NULL, "set", 7, 0, 1);
        e.fills(0, 0, 1).due(1, "drop", 0).refused(NULL, "set", 0, 0, 1);
    }

    static void promise03BadThenNullThenPlace() {
        Edge e = anew().fills(0, 0, 1);
        e.refused(BAD, "set", 8, -1, 0).refused(BAD, "set", -1, 40, 0);
        e.refused(NULL, "set", 1, -1, 0).refused(NULL, "set", 1, 40, 0).refused(PLACE, "set", 0, 1, 0);
    }

    // ---- copy

    static void promise04RowsGoFrom0To7() {
        Edge e = anew().fills(0, 0, 1, 2).fills(7, 0, 3, 4);
        e.due(1, "copy", 0, 0, 7, 1, 1).dueItems(7, 3, 1).due(2, "copy", 7, 0, 0, 0, 2).dueItems(0, 3, 1);
        for (int row : NO_ROWS) {
            e.refused(BAD, "copy", row, 0, 0, 0, 1).refused(BAD, "copy", 0, 0, row, 0, 1);
            e.refused(BAD, "copy", row, 0, row, 0, 0);
        }
    }

    static void promise04AtMostToTheEndOfTheOne() {
        Edge e = anew().fills(0, 1, 1, 2, 3).fills(1, 1, 9, 9, 9, 9, 9);
        e.due(3, "copy", 0, 0, 1, 0, 3).dueItems(1, 1, 2, 3, 9, 9);
        e.due(1, "copy", 0, 2, 1, 4, 1).dueItems(1, 1, 2, 3, 9, 3);
        e.refused(PLACE, "copy", 0, 0, 1, 0, 4).refused(PLACE, "copy", 0, 2, 1, 0, 2);
        e.refused(PLACE, "copy", 0, 3, 1, 0, 1).refused(PLACE, "copy", 0, 4, 1, 0, 0);
    }

    static void promise04AtMostToTheEndOfTheOther() {
        Edge e = anew().fills(0, 2, 1, 2, 3, 4, 5).fills(1, 2, 9, 9, 9);
        e.due(3, "copy", 0, 2, 1, 0, 3).dueItems(1, 3, 4, 5);
        e.due(1, "copy", 0, 0, 1, 2, 1).dueItems(1, 3, 4, 1);
        e.refused(PLACE, "copy", 0, 0, 1, 0, 4).refused(PLACE, "copy", 0, 0, 1, 2, 2);
        e.refused(PLACE, "copy", 0, 0, 1, 3, 1).refused(PLACE, "copy", 0, 0, 1, 4, 0);
    }

    static void promise04NothingBelow0() {
        Edge e = anew().fills(0, 0, 1, 2, 3).fills(1, 0, 4, 5, 6);
        e.due(0, "copy", 0, 0, 1, 0, 0);
        e.refused(PLACE, "copy", 0, -1, 1, 0, 1).refused(PLACE, "copy", 0, -1, 1, 0, 0);
        e.refused(PLACE, "copy", 0, 0, 1, -1, 1).refused(PLACE, "copy", 0, 0, 1, -1, 0);
        e.refused(PLACE, "copy", 0, 0, 1, 0, -1).refused(PLACE, "copy", 0, 3, 1, 3, -1);
        e.refused(PLACE, "copy", 0, MIN, 1, 0, 1).refused(PLACE, "copy", 0, 0, 1, MIN, 1);
        e.refused(PLACE, "copy", 0, 0, 1, 0, MIN);
    }

    static void promise04NoneAtTheEnds() {
        Edge e = anew().fills(0, 0, 1, 2, 3).fills(1, 0, 4, 5).due(0, "row", 2, 0, 0);
        e.due(0, "copy", 0, 3, 1, 2, 0).due(0, "copy", 2, 0, 2, 0, 0).due(0, "copy", 0, 3, 2, 0, 0);
        e.dueItems(0, 1, 2, 3).dueItems(1, 4, 5);
        e.refused(PLACE, "copy", 2, 0, 0, 0, 1).refused(PLACE, "copy", 0, 0, 2, 0, 1);
        e.refused(PLACE, "copy", 2, 1, 0, 0, 0).refused(PLACE, "copy", 0, 0, 2, 1, 0);
    }

    static void promise04SumsThatWrapAround() {
        Edge e = anew().fills(0, 0, 1, 2, 3).fills(1, 0, 4, 5, 6);
        e.refused(PLACE, "copy", 0, MAX, 1, 0, MAX).refused(PLACE, "copy", 0, 0, 1, MAX, MAX);
        e.refused(PLACE, "copy", 0, 1, 1, 1, MAX).refused(PLACE, "copy", 0, MAX, 1, 0, 1);
        e.refused(PLACE, "copy", 0, 0, 1, MAX, 1).refused(PLACE, "copy", 0, MAX, 1, MAX, 2);
        e.refused(PLACE, "copy", 0, MIN, 1, MIN, MIN).refused(PLACE, "copy", 0, MIN, 1, 0, MAX);
    }

    static void promise04AllForty() {
        Edge e = anew().due(40, "row", 0, 0, 40).due(40, "row", 1, 0, 40);
        e.due(6, "set", 0, 0, 6).due(7, "set", 0, 39, 7).due(40, "copy", 0, 0, 1, 0, 40);
        int[] items = new int[40];
        items[0] = 6;
        items[39] = 7;
        e.dueItems(1, items).refused(PLACE, "copy", 0, 0, 1, 0, 41).refused(PLACE, "copy", 0, 1, 1, 0, 40);
    }

    static void promise04AsTheyWereAhead() {
        anew().fills(0, 0, 1, 2, 3, 4, 5).due(4, "copy", 0, 0, 0, 1, 4).dueItems(0, 1, 1, 2, 3, 4);
        anew().fills(0, 0, 1, 2, 3, 4, 5).due(4, "copy", 0, 1, 0, 0, 4).dueItems(0, 2, 3, 4, 5, 5);
        anew().fills(0, 0, 1, 2, 3, 4, 5).due(5, "copy", 0, 0, 0, 0, 5).dueItems(0, 1, 2, 3, 4, 5);
        Edge e = anew().fills(0, 0, 1, 2, 3, 4, 5);
        e.refused(PLACE, "copy", 0, 0, 0, 1, 5).refused(PLACE, "copy", 0, 1, 0, 0, 5);
    }

    static void promise04TwoLanesAreStore() {
        for (int a = 0; a < 3; a++) {
            for (int b = 0; b < 3; b++) {
                Edge e = anew().fills(0, a, 1, 2).fills(1, b, 3, 4);
                if (a == b) {
                    e.due(1, "copy", 0, 0, 1, 0, 1);
                } else {
                    e.refused(STORE, "copy", 0, 0, 1, 0, 1).refused(STORE, "copy", 0, 0, 1, 0, 0);
                }
            }
        }
    }

    static void promise04BadThenNullThenStoreThenPlace() {
        Edge e = anew().fills(0, 0, 1, 2).fills(1, 1, 3, 4);
        e.refused(BAD, "copy", 2, -1, 8, 0, 1).refused(BAD, "copy", -1, -1, 2, 0, 1);
        e.refused(NULL, "copy", 2, 0, 0, 0, 1).refused(NULL, "copy", 0, 0, 2, 0, 1);
        e.refused(NULL, "copy", 2, -1, 2, -1, -1).refused(NULL, "copy", 2, -1, 0, 0, 0);
        e.refused(NULL, "copy", 0, -1, 2, 0, 0);
        e.refused(STORE, "copy", 0, -1, 1, 0, 1).refused(STORE, "copy", 1, 0, 0, 0, 9);
        e.refused(PLACE, "copy", 0, -1, 0, 0, 1);
    }

    // ---- drop

    static void promise05RowsGoFrom0To7() {
        Edge e = anew().fills(0, 0, 1).fills(7, 2, 2, 3).fills(3, 1, 4);
        for (int row : NO_ROWS) {
            e.refused(BAD, "drop", row);
        }
        e.due(1, "drop", 0).due(2, "count", 0).due(2, "drop", 7).due(1, "count", 0).dueItems(3, 4);
    }

    static void promise05AMissingRowIsNull() {
        Edge e = anew();
        for (int row = 0; row < 8; row++) {
            e.refused(NULL, "drop", row);
        }
        e.due(2, "row", 6, 0, 2).due(2, "drop", 6).refused(NULL, "drop", 6);
    }

    static void promise05FromNoneToForty() {
        Edge e = anew().due(0, "row", 0, 0, 0).due(40, "row", 1, 2, 40);
        e.due(0, "drop", 0).due(40, "drop", 1).due(0, "count", 0);
    }

    static void promise05ItIsMissingFromNowOn() {
        Edge e = anew().fills(0, 0, 1, 2).fills(1, 0, 3).due(2, "drop", 0);
        e.refused(NULL, "set", 0, 0, 1).refused(NULL, "copy", 0, 0, 1, 0, 0).refused(NULL, "copy", 1, 0, 0, 0, 0);
        e.due(2, "row", 0, 0, 2).dueItems(0, 0, 0);
    }
}
