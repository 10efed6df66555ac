import java.math.BigInteger;
import java.util.ArrayDeque;
import java.util.ArrayList;
import java.util.Comparator;
import java.util.Deque;
import java.util.List;
import java.util.function.ToIntFunction;

/**
 * The document's promises once more, written as directly as may be and in another way than the program:
 * with objects, lists, real subclasses for the asks, and searches that try everything.
 */
public final class Model {
    private static final int NONE = -1000000, BAD = -1000001, STATE = -1000002, FULL = -1000003;

    /** Asks of tricks by the Java machine's own choice of bodies. */
    private static class Trick {
        final List<Integer> trace;
        final int number, power, met;

        Trick(List<Integer> trace, int number, int power, int met) {
            this.trace = trace;
            this.number = number;
            this.power = power;
            this.met = met;
        }

        int size() {
            trace.add(10);
            return power;
        }

        int mark() {
            trace.add(20);
            return number;
        }
    }

    private static class Skeleton extends Trick {
        Skeleton(List<Integer> trace, int number, int power, int met) {
            super(trace, number, power, met);
        }

        @Override
        int size() {
            trace.add(11);
            int given = super.size();
            return given + mark();
        }

        @Override
        int mark() {
            trace.add(21);
            return super.mark() + met;
        }
    }

    private static final class Bat extends Skeleton {
        Bat(List<Integer> trace, int number, int power, int met) {
            super(trace, number, power, met);
        }

        @Override
        int size() {
            trace.add(12);
            return -super.size();
        }

        @Override
        int mark() {
            trace.add(24);
            return super.mark() * 2;
        }
    }

    private static final class Hand extends Skeleton {
        Hand(List<Integer> trace, int number, int power, int met) {
            super(trace, number, power, met);
        }

        @Override
        int mark() {
            trace.add(22);
            return super.mark() - 1000;
        }
    }

    private static class Mirror extends Trick {
        Mirror(List<Integer> trace, int number, int power, int met) {
            super(trace, number, power, met);
        }

        @Override
        int size() {
            trace.add(13);
            return super.size() - 100;
        }

        @Override
        int mark() {
            trace.add(23);
            int given = super.mark();
            return given - size();
        }
    }

    private static final class Ghost extends Mirror {
        Ghost(List<Integer> trace, int number, int power, int met) {
            super(trace, number, power, met);
        }

        @Override
        int size() {
            trace.add(14);
            return super.size() * 2;
        }
    }

    private static final class Stunt {
        char sort;
        int cell, power, met;
        boolean on = true;

        Stunt copy() {
            Stunt s = new Stunt();
            s.sort = sort;
            s.cell = cell;
            s.power = power;
            s.met = met;
            s.on = on;
            return s;
        }

        int kind() {
            return "?sbhmo".indexOf(sort);
        }
    }

    private static final class Wagon {
        int riders, nerve, pace, fear, screams;
        int where = 20;
        boolean halted;

        Wagon copy() {
            Wagon w = new Wagon();
            w.riders = riders;
            w.nerve = nerve;
            w.pace = pace;
            w.fear = fear;
            w.screams = screams;
            w.where = where;
            w.halted = halted;
            return w;
        }

        boolean runs() {
            return where < 20;
        }
    }

    private static final class World {
        int cells, tick;
        final List<Stunt> stunts = new ArrayList<>();
        final List<Wagon> wagons = new ArrayList<>();
        List<Integer> rank = new ArrayList<>();

        World copy() {
            World w = new World();
            w.cells = cells;
            w.tick = tick;
            for (Stunt s : stunts) {
                w.stunts.add(s.copy());
            }
            for (Wagon a : wagons) {
                w.wagons.add(a.copy());
            }
            w.rank = new ArrayList<>(rank);
            return w;
        }

        World after(int n) {
            World w = copy();
            for (int i = 0; i < n; i++) {
                w.pass();
            }
            return w;
        }

        boolean taken(int cell, Wagon but) {
            return wagons.stream().anyMatch(w -> w != but && w.where == cell);
        }

        void pass() {
            List<Wagon> line = new ArrayList<>();
            for (Wagon w : wagons) {
                if (w.runs()) {
                    line.add(w);
                }
            }
            line.sort(Comparator.comparingInt((Wagon w) -> -w.where));
            for (Wagon w : line) {
                if (w.halted) {
                    w.halted = false;
                } else {
                    drive(w);
                }
            }
            if (!taken(0, null)) {
                for (int i : rank) {
                    if (wagons.get(i).where == 20) {
                        enter(wagons.get(i), 0);
                        break;
                    }
                }
            }
            tick++;
        }

        void drive(Wagon w) {
            int left = w.pace;
            while (left-- > 0) {
                if (w.where == cells - 1) {
                    w.where = 21;
                    return;
                }
                if (taken(w.where + 1, w)) {
                    return;
                }
                if (enter(w, w.where + 1)) {
                    return;
                }
            }
        }

        boolean enter(Wagon w, int cell) {
            w.where = cell;
            for (Stunt s : stunts) {
                if (!s.on || s.cell != cell) {
                    continue;
                }
                if (s.met < 999) {
                    s.met++;
                }
                boolean alone = wagons.stream().noneMatch(o -> o != w && o.runs());
                if (s.sort == 's' || s.sort == 'b' && s.met % 2 == 0 || s.sort == 'h') {
                    w.fear += s.power;
                }
                if (s.sort == 'h' && alone) {
                    w.fear += s.power;
                }
                if (s.sort == 'm' || s.sort == 'o' && tick % 2 == 1) {
                    w.fear += s.power * w.riders;
                }
            }
            if (w.fear < w.nerve) {
                return false;
            }
            w.screams++;
            w.fear = 0;
            w.halted = true;
            return true;
        }

        int bits(ToIntFunction<Wagon> chosen) {
            int bits = 0;
            for (int i = 0; i < wagons.size(); i++) {
                bits += chosen.applyAsInt(wagons.get(i)) << i;
            }
            return bits;
        }

        int out() {
            return bits(w -> w.where == 21 ? 1 : 0);
        }

        int waiting() {
            return bits(w -> w.where == 20 ? 1 : 0);
        }

        int running() {
            return bits(w -> w.runs() ? 1 : 0);
        }

        int screams() {
            return wagons.stream().mapToInt(w -> w.screams).sum();
        }

        int fear() {
            return wagons.stream().mapToInt(w -> w.fear).sum();
        }

        int met() {
            return stunts.stream().mapToInt(s -> s.met).sum();
        }
    }

    private final Object[] rows = new Object[8];
    private final StringBuilder tape = new StringBuilder();
    private World world;
    private final Deque<World> acts = new ArrayDeque<>();
    private final World[] images = new World[2];
    private final List<Integer> trace = new ArrayList<>();
    private int faultNumber, finding;

    private boolean noRow(int row) {
        return row < 0 || row > 7;
    }

    private boolean noTrick(int trick) {
        return world == null || trick < 0 || trick >= world.stunts.size();
    }

    private boolean noCar(int car) {
        return world == null || car < 0 || car >= world.wagons.size();
    }

    private boolean noCell(int cell) {
        return world == null || cell < 0 || cell >= world.cells;
    }

    private static boolean off(int v, int least, int most) {
        return v < least || v > most;
    }

    private int found(int number) {
        finding = number;
        return -1000010 - number;
    }

    private int well(int answer) {
        finding = 0;
        return answer;
    }

    // ---- rows

    public int row(int row, int lane, int n) {
        if (noRow(row) || off(lane, 0, 2) || n > 40) {
            return BAD;
        }
        if (n < 0) {
            return found(4);
        }
        rows[row] = lane == 0 ? new byte[n] : lane == 1 ? new short[n] : new int[n];
        return well(n);
    }

    private static int item(Object row, int i) {
        return java.lang.reflect.Array.getInt(row, i);
    }

    private static int length(Object row) {
        return java.lang.reflect.Array.getLength(row);
    }

    public int set(int row, int i, int v) {
        if (noRow(row)) {
            return BAD;
        }
        if (rows[row] == null) {
            return found(1);
        }
        if (off(i, 0, length(rows[row]) - 1)) {
            return found(2);
        }
        if (rows[row] instanceof byte[] b) {
            b[i] = (byte) v;
        } else if (rows[row] instanceof short[] s) {
            s[i] = (short) v;
        } else {
            ((int[]) rows[row])[i] = v;
        }
        return well(item(rows[row], i));
    }

    public int copy(int a, int i, int b, int j, int n) {
        if (noRow(a) || noRow(b)) {
            return BAD;
        }
        try {
            System.arraycopy(rows[a], i, rows[b], j, n);
        } catch (NullPointerException e) {
            return found(1);
        } catch (ArrayStoreException e) {
            return found(5);
        } catch (IndexOutOfBoundsException e) {
            return found(2);
        }
        return well(n);
    }

    public int drop(int row) {
        if (noRow(row)) {
            return BAD;
        }
        if (rows[row] == null) {
            return found(1);
        }
        int had = length(rows[row]);
        rows[row] = null;
        return well(had);
    }

    // ---- what is told

    public int feed(int letter) {
        if (off(letter, 0, 255)) {
            return BAD;
        }
        if (tape.length() == 100) {
            return FULL;
        }
        tape.append((char) letter);
        return tape.length();
    }

    public int train() {
        ModelText text = new ModelText(tape.toString());
        tape.setLength(0);
        if (text.fault != 0) {
            faultNumber = text.fault;
            return -1000100 - text.place;
        }
        World w = new World();
        w.cells = text.law;
        for (int[] t : text.tricks) {
            Stunt s = new Stunt();
            s.sort = (char) t[0];
            s.cell = t[1];
            s.power = t[2];
            w.stunts.add(s);
        }
        for (int[] c : text.cars) {
            Wagon a = new Wagon();
            a.riders = c[0];
            a.nerve = c[1];
            a.pace = c[2];
            w.rank.add(w.wagons.size());
            w.wagons.add(a);
        }
        world = w;
        acts.clear();
        return w.stunts.size();
    }

    public int fault() {
        return faultNumber;
    }

    public int undo() {
        if (acts.isEmpty()) {
            return STATE;
        }
        world = acts.pop();
        return acts.size();
    }

    // ---- what is done

    private void act() {
        acts.push(world.copy());
        if (acts.size() > 24) {
            acts.removeLast();
        }
    }

    public int ticks(int n) {
        if (world == null) {
            return STATE;
        }
        if (off(n, 1, 24)) {
            return BAD;
        }
        if (world.tick + n > 999) {
            return FULL;
        }
        for (int i = 0; i < n; i++) {
            act();
            world.pass();
        }
        return world.out();
    }

    public int place(int trick, int cell) {
        if (noTrick(trick) || noCell(cell)) {
            return BAD;
        }
        int was = world.stunts.get(trick).cell;
        if (was == cell) {
            return STATE;
        }
        act();
        world.stunts.get(trick).cell = cell;
        return was;
    }

    public int flip(int trick) {
        if (noTrick(trick)) {
            return BAD;
        }
        act();
        Stunt s = world.stunts.get(trick);
        s.on = !s.on;
        return s.on ? 1 : 0;
    }

    public int nerve(int car, int v) {
        if (noCar(car) || off(v, 1, 60)) {
            return BAD;
        }
        act();
        int was = world.wagons.get(car).nerve;
        world.wagons.get(car).nerve = v;
        return was;
    }

    private static void goAgain(Wagon w) {
        w.where = 20;
        w.fear = 0;
        w.halted = false;
    }

    public int again(int car) {
        if (noCar(car)) {
            return BAD;
        }
        if (world.wagons.get(car).where != 21) {
            return STATE;
        }
        act();
        goAgain(world.wagons.get(car));
        return world.waiting();
    }

    private static int pick(int what, int... of) {
        return off(what, 0, of.length - 1) ? BAD : of[what];
    }

    public int trick(int trick, int what) {
        if (noTrick(trick)) {
            return BAD;
        }
        Stunt s = world.stunts.get(trick);
        return pick(what, s.cell, s.power, s.on ? 1 : 0, s.met);
    }

    public int car(int car, int what) {
        if (noCar(car)) {
            return BAD;
        }
        Wagon w = world.wagons.get(car);
        return pick(what, w.riders, w.nerve, w.pace, w.where, w.fear, w.screams, w.halted ? 1 : 0);
    }

    public int cell(int cell, int what) {
        if (noCell(cell)) {
            return BAD;
        }
        int who = NONE;
        for (Wagon w : world.wagons) {
            who = w.where == cell ? world.wagons.indexOf(w) : who;
        }
        int bits = 0;
        for (int i = 0; i < world.stunts.size(); i++) {
            bits += world.stunts.get(i).cell == cell ? 1 << i : 0;
        }
        return pick(what, who, bits);
    }

    private int onBits() {
        int bits = 0;
        for (int i = 0; i < world.stunts.size(); i++) {
            bits += world.stunts.get(i).on ? 1 << i : 0;
        }
        return bits;
    }

    public int stand(int what) {
        if (world == null) {
            return STATE;
        }
        return pick(what, world.cells, world.waiting(), world.running(), world.out(), onBits());
    }

    // ---- foretold

    public int ahead(int car, int n, int what) {
        if (noCar(car) || off(n, 0, 60) || off(what, 0, 3)) {
            return BAD;
        }
        Wagon w = world.after(n).wagons.get(car);
        return pick(what, w.where, w.fear, w.screams, w.halted ? 1 : 0);
    }

    public int show(int n, int what) {
        if (world == null) {
            return STATE;
        }
        if (off(n, 0, 60) || off(what, 0, 2)) {
            return BAD;
        }
        World w = world.after(n);
        return pick(what, w.out(), w.screams(), w.met());
    }

    public int when(int car, int how) {
        if (noCar(car) || off(how, 0, 2)) {
            return BAD;
        }
        World w = world.copy();
        int before = w.wagons.get(car).screams;
        for (int n = 0; n <= 60; n++) {
            Wagon a = w.wagons.get(car);
            if (how == 0 && a.where != 20 || how == 1 && a.screams != before || how == 2 && a.where == 21) {
                return n;
            }
            w.pass();
        }
        return NONE;
    }

    public int over() {
        if (world == null) {
            return STATE;
        }
        for (int n = 0; n <= 60; n++) {
            if (world.after(n).out() == (1 << world.wagons.size()) - 1) {
                return n;
            }
        }
        return NONE;
    }

    private static void orders(List<Integer> begun, int cars, List<List<Integer>> all) {
        if (begun.size() == cars) {
            all.add(new ArrayList<>(begun));
        }
        for (int car = 0; car < cars; car++) {
            if (!begun.contains(car)) {
                begun.add(car);
                orders(begun, cars, all);
                begun.remove(begun.size() - 1);
            }
        }
    }

    public int order(int n, int k) {
        if (world == null) {
            return STATE;
        }
        if (off(n, 1, 50) || k < -1) {
            return BAD;
        }
        List<List<Integer>> all = new ArrayList<>();
        orders(new ArrayList<>(), world.wagons.size(), all);
        List<Integer> best = null;
        int most = -1;
        int mostOut = -1;
        for (List<Integer> one : all) {
            World w = world.copy();
            w.rank = one;
            w = w.after(n);
            int out = Integer.bitCount(w.out());
            if (w.screams() > most || w.screams() == most && out > mostOut) {
                best = one;
                most = w.screams();
                mostOut = out;
            }
        }
        if (k == -1) {
            return most;
        }
        return k < best.size() ? best.get(k) : NONE;
    }

    public int spot(int trick, int n, int what) {
        if (noTrick(trick) || off(n, 1, 50) || off(what, 0, 1)) {
            return BAD;
        }
        int bestCell = -1;
        int most = -1;
        for (int cell = world.cells - 1; cell >= 0; cell--) {
            World w = world.copy();
            w.stunts.get(trick).cell = cell;
            int screams = w.after(n).screams();
            if (screams >= most) {
                bestCell = cell;
                most = screams;
            }
        }
        return what == 0 ? bestCell : most;
    }

    private World switched(int onBits) {
        World w = world.copy();
        for (int i = 0; i < w.stunts.size(); i++) {
            w.stunts.get(i).on = (onBits & 1 << i) != 0;
        }
        return w;
    }

    public int calm(int n, int what) {
        if (world == null) {
            return STATE;
        }
        if (off(n, 1, 50) || off(what, 0, 1)) {
            return BAD;
        }
        int all = (1 << world.stunts.size()) - 1;
        for (int many = 0; many <= world.stunts.size(); many++) {
            for (int bits = 0; bits <= all; bits++) {
                if (Integer.bitCount(bits) == many && switched(all - bits).after(n).screams() == world.screams()) {
                    return what == 0 ? many : bits;
                }
            }
        }
        return NONE;
    }

    public int bears(int car, int n) {
        if (noCar(car) || off(n, 1, 50)) {
            return BAD;
        }
        int least = NONE;
        for (int v = 60; v >= 1; v--) {
            World w = world.copy();
            w.wagons.get(car).nerve = v;
            if (w.after(n).wagons.get(car).screams == world.wagons.get(car).screams) {
                least = v;
            }
        }
        return least;
    }

    private void collectSets(int car, int set, int left, List<Integer> all) {
        if (car == world.wagons.size()) {
            if (left == 0) {
                all.add(set);
            }
            return;
        }
        collectSets(car + 1, set, left, all);
        if (world.wagons.get(car).where != 21) {
            collectSets(car + 1, set + (1 << car), left - world.wagons.get(car).riders, all);
        }
    }

    public int sets(int v, int what) {
        if (world == null) {
            return STATE;
        }
        if (off(v, 0, 24) || off(what, 0, 2)) {
            return BAD;
        }
        List<Integer> all = new ArrayList<>();
        collectSets(0, 0, v, all);
        int inAll = all.isEmpty() ? 0 : 63;
        int inAny = 0;
        for (int set : all) {
            inAll &= set;
            inAny |= set;
        }
        return pick(what, all.size(), inAll, inAny);
    }

    public int share(int trick, int n) {
        if (noTrick(trick) || off(n, 0, 999)) {
            return BAD;
        }
        int met = world.met();
        if (met == 0) {
            return 0;
        }
        int[] gets = new int[world.stunts.size()];
        int over = n;
        for (int i = 0; i < gets.length; i++) {
            gets[i] = n * world.stunts.get(i).met / met;
            over -= gets[i];
        }
        for (int i = 0; i < gets.length && over > 0; i++) {
            if (world.stunts.get(i).met > 0) {
                gets[i]++;
                over--;
            }
        }
        return gets[trick];
    }

    private int turns(int bits, int left, boolean wantsMany, int m) {
        if (left == 0) {
            return switched(bits).after(m).screams();
        }
        int best = turns(bits, left - 1, !wantsMany, m);
        for (int i = 0; i < world.stunts.size(); i++) {
            boolean on = (bits & 1 << i) != 0;
            if (on != wantsMany) {
                int comes = turns(bits ^ 1 << i, left - 1, !wantsMany, m);
                best = wantsMany ? Math.max(best, comes) : Math.min(best, comes);
            }
        }
        return best;
    }

    public int byTurns(int n, int m) {
        if (world == null) {
            return STATE;
        }
        if (off(n, 0, 4) || off(m, 1, 20)) {
            return BAD;
        }
        return turns(onBits(), n, true, m);
    }

    private boolean fits(World w, int car, int row, int i, int n) {
        for (int k = 0; k < n; k++) {
            if (w.after(k + 1).wagons.get(car).fear != item(rows[row], i + k)) {
                return false;
            }
        }
        return true;
    }

    private int rowFinding(int row, int i, int n) {
        if (rows[row] == null) {
            return 1;
        }
        return i < 0 || (long) i + n > length(rows[row]) ? 2 : 0;
    }

    public int who(int trick, int which, int car, int row, int i, int n) {
        if (noTrick(trick) || off(which, 0, 2) || noCar(car) || noRow(row) || off(n, 1, 12)) {
            return BAD;
        }
        if (rowFinding(row, i, n) != 0) {
            return found(rowFinding(row, i, n));
        }
        int bits = 0;
        for (int v = 0; v < 12; v++) {
            World w = world.copy();
            Stunt s = w.stunts.get(trick);
            if (which == 0 && v >= 1 && v <= 5) {
                s.sort = "?sbhmo".charAt(v);
            } else if (which == 1 && v >= 1 && v <= 9) {
                s.power = v;
            } else if (which == 2 && v < w.cells) {
                s.cell = v;
            } else {
                continue;
            }
            bits += fits(w, car, row, i, n) ? 1 << v : 0;
        }
        return well(bits);
    }

    public int nerves(int car, int what, int row, int i, int n) {
        if (noCar(car) || off(what, 0, 1) || noRow(row) || off(n, 1, 12)) {
            return BAD;
        }
        if (rowFinding(row, i, n) != 0) {
            return found(rowFinding(row, i, n));
        }
        List<Integer> fitting = new ArrayList<>();
        for (int v = 1; v <= 60; v++) {
            World w = world.copy();
            w.wagons.get(car).nerve = v;
            if (fits(w, car, row, i, n)) {
                fitting.add(v);
            }
        }
        return well(what == 0 ? fitting.size() : fitting.isEmpty() ? NONE : fitting.get(0));
    }

    private BigInteger screaming(World w, int trick, int car, int n, int p) {
        if (trick == w.stunts.size()) {
            boolean screams = w.after(n).wagons.get(car).screams > world.wagons.get(car).screams;
            return screams ? BigInteger.ONE : BigInteger.ZERO;
        }
        if (!w.stunts.get(trick).on) {
            return BigInteger.TEN.multiply(screaming(w, trick + 1, car, n, p));
        }
        BigInteger stays = screaming(w, trick + 1, car, n, p).multiply(BigInteger.valueOf(10 - p));
        World failed = w.copy();
        failed.stunts.get(trick).on = false;
        return stays.add(screaming(failed, trick + 1, car, n, p).multiply(BigInteger.valueOf(p)));
    }

    public long fails(int car, int n, int p, int what) {
        if (noCar(car) || off(n, 0, 60) || off(p, 0, 10) || off(what, 0, 1)) {
            return BAD;
        }
        BigInteger above = screaming(world, 0, car, n, p);
        BigInteger below = BigInteger.TEN.pow(world.stunts.size());
        BigInteger divisor = above.gcd(below);
        return (what == 0 ? above : below).divide(divisor).longValueExact();
    }

    public int drawn(int n, int seed, int what) {
        if (world == null) {
            return STATE;
        }
        if (off(n, 0, 60) || off(seed, 1, 999999) || off(what, 0, 1)) {
            return BAD;
        }
        World w = world.copy();
        BigInteger x = BigInteger.valueOf(seed);
        for (int i = 0; i < n; i++) {
            x = x.multiply(BigInteger.valueOf(16807)).mod(BigInteger.valueOf(Integer.MAX_VALUE));
            Wagon a = w.wagons.get(x.mod(BigInteger.valueOf(w.wagons.size())).intValue());
            if (a.where == 21) {
                goAgain(a);
            } else if (x.mod(BigInteger.valueOf(3)).signum() == 0) {
                Stunt s = w.stunts.get(x.mod(BigInteger.valueOf(w.stunts.size())).intValue());
                s.cell = x.mod(BigInteger.valueOf(w.cells)).intValue();
            }
            w.pass();
        }
        return pick(what, w.screams() - world.screams(), w.fear());
    }

    public int image(int k) {
        if (off(k, 0, 1)) {
            return BAD;
        }
        if (world == null) {
            return STATE;
        }
        images[k] = world.copy();
        return 1;
    }

    public int restore(int k) {
        if (off(k, 0, 1)) {
            return BAD;
        }
        if (images[k] == null) {
            return STATE;
        }
        world = images[k].copy();
        acts.clear();
        return 1;
    }

    // ---- asked

    public int kind(int one) {
        return noTrick(one) ? BAD : world.stunts.get(one).kind();
    }

    private Trick body(int one) {
        Stunt s = world.stunts.get(one);
        return switch (s.sort) {
            case 's' -> new Skeleton(trace, one, s.power, s.met);
            case 'b' -> new Bat(trace, one, s.power, s.met);
            case 'h' -> new Hand(trace, one, s.power, s.met);
            case 'm' -> new Mirror(trace, one, s.power, s.met);
            default -> new Ghost(trace, one, s.power, s.met);
        };
    }

    public int as(int one, int kind) {
        if (noTrick(one) || off(kind, 0, 5)) {
            return BAD;
        }
        List<Class<?>> classes = List.of(Trick.class, Skeleton.class, Bat.class, Hand.class, Mirror.class, Ghost.class);
        return classes.get(kind).isInstance(body(one)) ? well(one) : found(3);
    }

    public int ask(int one, int what) {
        if (noTrick(one) || off(what, 0, 1)) {
            return BAD;
        }
        trace.clear();
        return what == 0 ? body(one).size() : body(one).mark();
    }

    public int trace(int i) {
        return off(i, 0, Math.min(trace.size(), 16) - 1) ? NONE : trace.get(i);
    }

    public int count(int what) {
        int there = 0;
        for (Object row : rows) {
            there += row == null ? 0 : 1;
        }
        World w = world == null ? new World() : world;
        return pick(what, there, w.stunts.size(), w.wagons.size(), w.tick, Integer.bitCount(w.out()), w.screams(),
            w.fear(), acts.size(), tape.length());
    }

    public int status() {
        return finding;
    }
}
