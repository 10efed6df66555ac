/** Counts answers that are not the ones that are due, and ends the test by them. */
final class Check {
    static final int NONE = -1000000, BAD = -1000001, STATE = -1000002, FULL = -1000003;
    static final int NULL = -1000011, PLACE = -1000012, KIND = -1000013, SIZE = -1000014, STORE = -1000015;
    static final int MIN = Integer.MIN_VALUE, MAX = Integer.MAX_VALUE;
    private static final int SHOWN = 40;

    private final String name;
    private String part = "";
    private int asked;
    private int wrong;

    Check(String name) {
        this.name = name;
    }

    /** What follows belongs to this part of the test, and is told with its name. */
    void begin(String newPart) {
        part = newPart + ": ";
    }

    void due(String call, long got, long want) {
        asked++;
        if (got != want) {
            wrong(call + " answered " + got + ", due is " + want);
        }
    }

    void dueSame(String what, String got, String want) {
        asked++;
        if (!got.equals(want)) {
            wrong(what + ": " + got + ", due is " + want);
        }
    }

    private void wrong(String text) {
        wrong++;
        if (wrong <= SHOWN) {
            System.out.println(name + ": " + part + text);
        }
    }

    int wrong() {
        return wrong;
    }

    void end() {
        System.out.println(name + ": " + asked + " answers, " + wrong + " not as due");
        if (wrong != 0) {
            System.exit(1);
        }
    }

    static int tell(GhostTrain x, String text) {
        for (int i = 0; i < text.length(); i++) {
            x.feed(text.charAt(i));
        }
        return x.train();
    }

    static GhostTrain of(String text) {
        GhostTrain x = new GhostTrain();
        if (tell(x, text) < 0) {
            throw new IllegalArgumentException("no train: " + text);
        }
        return x;
    }

    static void fill(GhostTrain x, int row, int lane, int... items) {
        x.row(row, lane, items.length);
        for (int i = 0; i < items.length; i++) {
            x.set(row, i, items[i]);
        }
    }
}
