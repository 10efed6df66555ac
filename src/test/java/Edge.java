import java.lang.reflect.InvocationTargetException;
import java.lang.reflect.Method;
import java.util.ArrayList;
import java.util.Arrays;
import java.util.Comparator;
import java.util.List;

/**
 * A run of calls on one object, each with the answer that is due. A call that should change nothing is made on a second
 * object, brought there by the same calls, and all that is seen of it is held against a third one, without that call.
 */
final class Edge {
    private record Call(String name, int[] args) { }

    private static final int FINDING = -1000010, MOST_FINDING = 5, FAULT_PLACE = -1000100;

    private final Check check;
    private final Used x = new Used();
    private final List<Call> run = new ArrayList<>();
    private List<String> seen;
    private long status;

    Edge(Check check) {
        this.check = check;
    }

    static Edge of(Check check, String text) {
        return new Edge(check).reads(text);
    }

    /** Runs all tests of a class, which begin with the promise's name, by their names. */
    static void runAll(Class<?> tests, Check check) {
        Method[] all = tests.getDeclaredMethods();
        Arrays.sort(all, Comparator.comparing(Method::getName));
        for (Method one : all) {
            if (one.getName().startsWith("promise")) {
                check.begin(one.getName());
                try {
                    one.invoke(null);
                } catch (InvocationTargetException e) {
                    throw new IllegalStateException(one.getName(), e.getCause());
                } catch (IllegalAccessException e) {
                    throw new IllegalStateException(e);
                }
            }
        }
        check.end();
    }

    /** The call is taken. */
    Edge due(long want, String name, int... args) {
        run.add(new Call(name, args));
        seen = null;
        check.due(Used.text(name, args), x.call(name, args), want);
        return this;
    }

    /** The call is one of the run, whatever it answers. */
    Edge then(String name, int... args) {
        run.add(new Call(name, args));
        seen = null;
        x.call(name, args);
        return this;
    }

    Edge feeds(String text) {
        for (int i = 0; i < text.length(); i++) {
            then("feed", text.charAt(i));
        }
        return this;
    }

    /** The text is fed, and read without a fault. */
    Edge reads(String text) {
        feeds(text);
        long tricks = text.chars().filter(sign -> "sbhmo".indexOf(sign) >= 0).count();
        return due(tricks, "train");
    }

    Edge fills(int row, int lane, int... items) {
        then("row", row, lane, items.length);
        for (int i = 0; i < items.length; i++) {
            then("set", row, i, items[i]);
        }
        return this;
    }

    /** The call is refused, or finds something, and changes nothing but status(). */
    Edge refused(long want, String name, int... args) {
        boolean found = want < FINDING && want >= FINDING - MOST_FINDING;
        return changesNothing(want, found ? FINDING - want : statusNow(), name, args);
    }

    /** The call is answered, and changes nothing (with a row, or as: but status(), which is 0 then). */
    Edge foretold(long want, String name, int... args) {
        boolean sets = List.of("who", "nerves", "as").contains(name);
        return changesNothing(want, sets ? 0 : statusNow(), name, args);
    }

    private Edge changesNothing(long want, long status, String name, int... args) {
        Used second = again();
        String text = Used.text(name, args);
        check.due(text, second.call(name, args), want);
        check.due("status() behind " + text, second.call("status"), status);
        dueSeen(text, Look.at(second));
        return this;
    }

    /** A text is fed that has a fault: all stays, but that the fault is told, and the tape is empty. */
    Edge spoilt(String text, int place, int number) {
        Used second = again();
        for (int i = 0; i < text.length(); i++) {
            second.call("feed", text.charAt(i));
        }
        check.due("train() of " + text, second.call("train"), FAULT_PLACE - place);
        check.due("fault() of " + text, second.call("fault"), number);
        check.due("status() of " + text, second.call("status"), statusNow());
        List<String> all = Look.at(second);
        // the fault is seen first, and may be another one
        all.set(0, seen().get(0));
        dueSeen(text, all);
        return this;
    }

    /** Items from 0 to 9, read by a train of their own. */
    Edge dueItems(int row, int... items) {
        Used second = again();
        Look.tellReader(second);
        for (int i = 0; i < items.length; i++) {
            check.due("item " + i + " of row " + row, Look.item(second, row, i), items[i]);
        }
        check.due("size of row " + row, second.call("drop", row), items.length);
        return this;
    }

    /** As car(car, 3) and so on tell it: where, fear, screams, halted. */
    Edge dueCar(int car, int... fields) {
        for (int i = 0; i < fields.length; i++) {
            due(fields[i], "car", car, 3 + i);
        }
        return this;
    }

    /** All that is seen of both is the same. */
    Edge dueLike(Edge other) {
        dueSeen("as another run", other.seen());
        return this;
    }

    private Used again() {
        Used second = new Used();
        for (Call one : run) {
            second.call(one.name, one.args);
        }
        return second;
    }

    private List<String> seen() {
        if (seen == null) {
            Used second = again();
            status = second.call("status");
            seen = Look.at(second);
        }
        return seen;
    }

    private long statusNow() {
        seen();
        return status;
    }

    private void dueSeen(String text, List<String> got) {
        List<String> want = seen();
        int i = 0;
        while (i < want.size() && i < got.size() && got.get(i).equals(want.get(i))) {
            i++;
        }
        String gotThere = i < got.size() ? got.get(i) : "nothing more";
        String wantThere = i < want.size() ? want.get(i) : "nothing more";
        check.dueSame("seen behind " + text, gotThere, wantThere);
    }
}
