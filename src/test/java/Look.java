import java.util.ArrayList;
import java.util.List;

/** All that can be seen of an object but status(); it is used up by it. */
final class Look {
    /** By this train a car's fear behind a tick is the power of the one trick, so that items can be read. */
    private static final String READER = "g4;s0,1;c1,60,1;";
    private static final int ROWS = 8, MOST_POWER = 9, MOST_BODIES = 6;

    private final Used x;
    private final List<String> seen = new ArrayList<>();

    private Look(Used x) {
        this.x = x;
    }

    static List<String> at(Used x) {
        Look look = new Look(x);
        look.seeTrace();
        look.seeTrain();
        look.seeActs();
        look.seeImages();
        look.seeTape();
        look.seeRows();
        return look.seen;
    }

    /** An item from 0 to 9, NONE for any other, or what was found; READER must have been told. */
    static long item(Used x, int row, int i) {
        long powers = x.call("who", 0, 1, 0, row, i, 1);
        if (powers < 0) {
            return powers;
        }
        for (int v = 1; v <= MOST_POWER; v++) {
            if (powers == 1 << v) {
                return v;
            }
        }
        // fear is 0 by the least nerve alone
        return x.call("nerves", 0, 0, row, i, 1) == 1 ? 0 : Check.NONE;
    }

    static void tellReader(Used x) {
        // whatever is on the tape is read, and gone
        x.call("train");
        for (int i = 0; i < READER.length(); i++) {
            x.call("feed", READER.charAt(i));
        }
        x.call("train");
    }

    private long see(String name, int... args) {
        long answer = x.call(name, args);
        seen.add(Used.text(name, args) + " = " + answer);
        return answer;
    }

    private void seeTrace() {
        see("fault");
        for (int i = 0; i <= MOST_BODIES; i++) {
            see("trace", i);
        }
    }

    private void seeTrain() {
        for (int what = 0; what <= 8; what++) {
            see("count", what);
        }
        long cells = Math.max(0, see("stand", 0));
        for (int what = 1; what <= 4; what++) {
            see("stand", what);
        }
        long tricks = x.call("count", 1);
        for (int trick = 0; trick < tricks; trick++) {
            see("kind", trick);
            for (int what = 0; what <= 3; what++) {
                see("trick", trick, what);
            }
        }
        long cars = x.call("count", 2);
        for (int car = 0; car < cars; car++) {
            for (int what = 0; what <= 6; what++) {
                see("car", car, what);
            }
        }
        for (int cell = 0; cell < cells; cell++) {
            see("cell", cell, 0);
        }
        see("order", 9, -1);
        see("order", 9, 0);
    }

    private void seeActs() {
        while (see("undo") >= 0) {
            see("count", 3);
            see("count", 6);
            see("stand", 4);
        }
        seeTrain();
    }

    private void seeImages() {
        for (int k = 0; k <= 1; k++) {
            if (see("restore", k) == 1) {
                seeTrain();
            }
        }
    }

    private void seeTape() {
        see("train");
        see("fault");
        see("count", 1);
        see("count", 2);
        see("stand", 0);
    }

    private void seeRows() {
        tellReader(x);
        for (int row = 0; row < ROWS; row++) {
            long item = 0;
            for (int i = 0; item >= Check.NONE; i++) {
                item = item(x, row, i);
                seen.add("item " + i + " of row " + row + " = " + item);
            }
            // what is left of these bits tells the lane
            see("set", row, 0, 0x18081);
            see("drop", row);
        }
    }
}
