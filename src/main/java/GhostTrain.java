import java.util.Arrays;

/**
 * A ghost train, told in a text: a track of cells with tricks, and cars that go through it tick by tick.
 * The document's numbered promises say what each call answers; every refusal is an answer, nothing is thrown.
 */
public final class GhostTrain {
    public static final int NONE = -1000000, BAD = -1000001, STATE = -1000002, FULL = -1000003;

    /** Findings are answered as FINDING less their number. */
    private static final int FINDING = -1000010;
    private static final int NULL = 1, PLACE = 2, KIND = 3, SIZE = 4, STORE = 5;
    private static final int FAULT_PLACE = -1000100;

    private static final int ROWS = 8, LANES = 3, MOST_ITEMS = 40, MOST_BYTES = 100;
    private static final int MOST_TRICKS = 5, MOST_CARS = 6, LEAST_CELLS = 4, MOST_CELLS = 12;
    private static final int MOST_POWER = 9, MOST_RIDERS = 4, MOST_NERVE = 60, MOST_PACE = 3;
    private static final int MOST_MET = 999, MOST_TICK = 999, MOST_ACTS = 24, IMAGES = 2, MOST_TRACE = 16;
    private static final int MOST_AHEAD = 60, MOST_SEARCH = 50, MOST_TOLD = 12, MOST_ORDERS = 720;

    private static final int WAITS = 20, OUT = 21, NOBODY = -1, NO_SORT = -1;
    private static final int TRICK = 0, SKELETON = 1, BAT = 2, HAND = 3, MIRROR = 4, GHOST = 5, KINDS = 6;

    private final Row[] rows = new Row[ROWS];
    private final Tape tape = new Tape();
    private final Train train = new Train();
    private final Train draft = new Train();
    private final Acts acts = new Acts();
    private final Train[] images = new Train[IMAGES];
    private final Foresight foresight = new Foresight();
    private final Asker asker = new Asker();
    private int latestFault;
    private int latestFinding;

    public GhostTrain() {
        for (int i = 0; i < ROWS; i++) {
            rows[i] = new Row();
        }
        for (int k = 0; k < IMAGES; k++) {
            images[k] = new Train();
        }
    }

    // ---- rows

    public int row(int row, int lane, int n) {
        if (!isRow(row) || !within(lane, 0, LANES - 1) || n > MOST_ITEMS) {
            return BAD;
        }
        if (n < 0) {
            return found(SIZE);
        }
        rows[row].begin(lane, n);
        return fine(n);
    }

    public int set(int row, int i, int v) {
        if (!isRow(row)) {
            return BAD;
        }
        Row one = rows[row];
        if (!one.there) {
            return found(NULL);
        }
        if (!within(i, 0, one.size - 1)) {
            return found(PLACE);
        }
        one.items[i] = one.cut(v);
        return fine(one.items[i]);
    }

    public int copy(int a, int i, int b, int j, int n) {
        if (!isRow(a) || !isRow(b)) {
            return BAD;
        }
        Row from = rows[a];
        Row to = rows[b];
        if (!from.there || !to.there) {
            return found(NULL);
        }
        if (from.lane != to.lane) {
            return found(STORE);
        }
        if (!from.holds(i, n) || !to.holds(j, n)) {
            return found(PLACE);
        }
        System.arraycopy(from.items, i, to.items, j, n);
        return fine(n);
    }

    public int drop(int row) {
        if (!isRow(row)) {
            return BAD;
        }
        if (!rows[row].there) {
            return found(NULL);
        }
        rows[row].there = false;
        return fine(rows[row].size);
    }

    // ---- what is told

    public int feed(int letter) {
        if (!within(letter, 0, 255)) {
            return BAD;
        }
        if (tape.size >= MOST_BYTES) {
            return FULL;
        }
        tape.bytes[tape.size] = letter;
        tape.size++;
        return tape.size;
    }

    public int train() {
        boolean read = tape.readInto(draft);
        tape.size = 0;
        if (!read) {
            latestFault = tape.faultNumber;
            return FAULT_PLACE - tape.at;
        }
        becomes(draft);
        return train.tricks;
    }

    public int fault() {
        return latestFault;
    }

    public int undo() {
        if (acts.kept == 0) {
            return STATE;
        }
        acts.takeBack(train);
        foresight.forget();
        return acts.kept;
    }

    // ---- what is done

    public int ticks(int n) {
        if (!hasTrain()) {
            return STATE;
        }
        if (!within(n, 1, MOST_ACTS)) {
            return BAD;
        }
        if (train.tick + n > MOST_TICK) {
            return FULL;
        }
        for (int i = 0; i < n; i++) {
            beginAct();
            train.tickOn();
        }
        return train.bitsOut();
    }

    public int place(int trick, int cell) {
        if (!isTrick(trick) || !isCell(cell)) {
            return BAD;
        }
        int was = train.spot[trick];
        if (was == cell) {
            return STATE;
        }
        beginAct();
        train.spot[trick] = cell;
        return was;
    }

    public int flip(int trick) {
        if (!isTrick(trick)) {
            return BAD;
        }
        beginAct();
        train.on[trick] = !train.on[trick];
        return oneIf(train.on[trick]);
    }

    public int nerve(int car, int v) {
        if (!isCar(car) || !within(v, 1, MOST_NERVE)) {
            return BAD;
        }
        int was = train.nerve[car];
        beginAct();
        train.nerve[car] = v;
        return was;
    }

    public int again(int car) {
        if (!isCar(car)) {
            return BAD;
        }
        if (train.where[car] != OUT) {
            return STATE;
        }
        beginAct();
        train.goAgain(car);
        return train.bitsWaiting();
    }

    public int trick(int trick, int what) {
        if (!isTrick(trick)) {
            return BAD;
        }
        switch (what) {
            case 0: return train.spot[trick];
            case 1: return train.power[trick];
            case 2: return oneIf(train.on[trick]);
            case 3: return train.met[trick];
            default: return BAD;
        }
    }

    public int car(int car, int what) {
        if (!isCar(car)) {
            return BAD;
        }
        switch (what) {
            case 0: return train.riders[car];
            case 1: return train.nerve[car];
            case 2: return train.pace[car];
            case 3: return train.where[car];
            case 4: return train.fear[car];
            case 5: return train.screams[car];
            case 6: return oneIf(train.halted[car]);
            default: return BAD;
        }
    }

    public int cell(int cell, int what) {
        if (!isCell(cell)) {
            return BAD;
        }
        switch (what) {
            case 0: return train.inCell[cell] == NOBODY ? NONE : train.inCell[cell];
            case 1: return train.tricksIn(cell);
            default: return BAD;
        }
    }

    public int stand(int what) {
        if (!hasTrain()) {
            return STATE;
        }
        switch (what) {
            case 0: return train.cells;
            case 1: return train.bitsWaiting();
            case 2: return train.bitsRunning();
            case 3: return train.bitsOut();
            case 4: return train.bitsOn();
            default: return BAD;
        }
    }

    // ---- foretold

    public int ahead(int car, int n, int what) {
        if (!isCar(car) || !within(n, 0, MOST_AHEAD) || !within(what, 0, 3)) {
            return BAD;
        }
        Train then = foresight.behind(train, n);
        switch (what) {
            case 0: return then.where[car];
            case 1: return then.fear[car];
            case 2: return then.screams[car];
            default: return oneIf(then.halted[car]);
        }
    }

    public int show(int n, int what) {
        if (!hasTrain()) {
            return STATE;
        }
        if (!within(n, 0, MOST_AHEAD) || !within(what, 0, 2)) {
            return BAD;
        }
        Train then = foresight.behind(train, n);
        switch (what) {
            case 0: return then.bitsOut();
            case 1: return then.allScreams();
            default: return then.allMet();
        }
    }

    public int when(int car, int how) {
        if (!isCar(car) || !within(how, 0, 2)) {
            return BAD;
        }
        return foresight.firstTime(train, car, how);
    }

    public int over() {
        return hasTrain() ? foresight.firstAllOut(train) : STATE;
    }

    public int order(int n, int k) {
        if (!hasTrain()) {
            return STATE;
        }
        if (!within(n, 1, MOST_SEARCH) || k < -1) {
            return BAD;
        }
        if (k >= train.cars) {
            return NONE;
        }
        foresight.findOrder(train, n);
        return k < 0 ? foresight.orderScreams : foresight.bestOrder[k];
    }

    public int spot(int trick, int n, int what) {
        if (!isTrick(trick) || !within(n, 1, MOST_SEARCH) || !within(what, 0, 1)) {
            return BAD;
        }
        return foresight.mostAt(train, trick, n, what);
    }

    public int calm(int n, int what) {
        if (!hasTrain()) {
            return STATE;
        }
        if (!within(n, 1, MOST_SEARCH) || !within(what, 0, 1)) {
            return BAD;
        }
        int off = foresight.fewestOff(train, n);
        return off == NONE || what == 1 ? off : Integer.bitCount(off);
    }

    public int bears(int car, int n) {
        if (!isCar(car) || !within(n, 1, MOST_SEARCH)) {
            return BAD;
        }
        return foresight.leastNerve(train, car, n);
    }

    public int sets(int v, int what) {
        if (!hasTrain()) {
            return STATE;
        }
        if (!within(v, 0, MOST_CARS * MOST_RIDERS) || !within(what, 0, 2)) {
            return BAD;
        }
        return train.setsWith(v, what);
    }

    public int share(int trick, int n) {
        if (!isTrick(trick) || !within(n, 0, 999)) {
            return BAD;
        }
        return train.takings(trick, n);
    }

    public int byTurns(int n, int m) {
        if (!hasTrain()) {
            return STATE;
        }
        if (!within(n, 0, 4) || !within(m, 1, 20)) {
            return BAD;
        }
        return foresight.switchingByTurns(train, n, m);
    }

    public int who(int trick, int which, int car, int row, int i, int n) {
        if (!isTrick(trick) || !within(which, 0, 2) || !isCar(car) || !isRow(row) || !within(n, 1, MOST_TOLD)) {
            return BAD;
        }
        int finding = findingIn(rows[row], i, n);
        if (finding != 0) {
            return found(finding);
        }
        foresight.hear(rows[row], i, n);
        return fine(foresight.fittingTricks(train, trick, which, car));
    }

    public int nerves(int car, int what, int row, int i, int n) {
        if (!isCar(car) || !within(what, 0, 1) || !isRow(row) || !within(n, 1, MOST_TOLD)) {
            return BAD;
        }
        int finding = findingIn(rows[row], i, n);
        if (finding != 0) {
            return found(finding);
        }
        foresight.hear(rows[row], i, n);
        return fine(foresight.fittingNerves(train, car, what));
    }

    public long fails(int car, int n, int p, int what) {
        if (!isCar(car) || !within(n, 0, MOST_AHEAD) || !within(p, 0, 10) || !within(what, 0, 1)) {
            return BAD;
        }
        return foresight.screamsIfFailing(train, car, n, p, what);
    }

    public int drawn(int n, int seed, int what) {
        if (!hasTrain()) {
            return STATE;
        }
        if (!within(n, 0, MOST_AHEAD) || !within(seed, 1, 999999) || !within(what, 0, 1)) {
            return BAD;
        }
        return foresight.nightsByDraws(train, n, seed, what);
    }

    public int image(int k) {
        if (!within(k, 0, IMAGES - 1)) {
            return BAD;
        }
        if (!hasTrain()) {
            return STATE;
        }
        images[k].copyFrom(train);
        return 1;
    }

    public int restore(int k) {
        if (!within(k, 0, IMAGES - 1)) {
            return BAD;
        }
        if (images[k].cars == 0) {
            return STATE;
        }
        becomes(images[k]);
        return 1;
    }

    // ---- asked

    public int kind(int one) {
        return isTrick(one) ? train.kind[one] : BAD;
    }

    public int as(int one, int kind) {
        if (!isTrick(one) || !within(kind, 0, KINDS - 1)) {
            return BAD;
        }
        return Asker.isOfKind(train.kind[one], kind) ? fine(one) : found(KIND);
    }

    public int ask(int one, int what) {
        if (!isTrick(one) || !within(what, 0, 1)) {
            return BAD;
        }
        return asker.answer(train, one, what);
    }

    public int trace(int i) {
        return within(i, 0, asker.traced - 1) ? asker.bodies[i] : NONE;
    }

    public int count(int what) {
        switch (what) {
            case 0: return rowsThere();
            case 1: return train.tricks;
            case 2: return train.cars;
            case 3: return train.tick;
            case 4: return Integer.bitCount(train.bitsOut());
            case 5: return train.allScreams();
            case 6: return train.allFear();
            case 7: return acts.kept;
            case 8: return tape.size;
            default: return BAD;
        }
    }

    public int status() {
        return latestFinding;
    }

    // ---- what the calls share

    private static boolean within(int v, int least, int most) {
        return v >= least && v <= most;
    }

    private static int oneIf(boolean so) {
        return so ? 1 : 0;
    }

    private static boolean isRow(int row) {
        return within(row, 0, ROWS - 1);
    }

    private boolean isTrick(int trick) {
        return within(trick, 0, train.tricks - 1);
    }

    private boolean isCar(int car) {
        return within(car, 0, train.cars - 1);
    }

    private boolean isCell(int cell) {
        return within(cell, 0, train.cells - 1);
    }

    private boolean hasTrain() {
        return train.cars > 0;
    }

    private int found(int finding) {
        latestFinding = finding;
        return FINDING - finding;
    }

    private int fine(int answer) {
        latestFinding = 0;
        return answer;
    }

    private static int findingIn(Row row, int i, int n) {
        if (!row.there) {
            return NULL;
        }
        return row.holds(i, n) ? 0 : PLACE;
    }

    private int rowsThere() {
        int there = 0;
        for (int i = 0; i < ROWS; i++) {
            there += oneIf(rows[i].there);
        }
        return there;
    }

    private void beginAct() {
        acts.keep(train);
        foresight.forget();
    }

    private void becomes(Train other) {
        train.copyFrom(other);
        acts.kept = 0;
        foresight.forget();
    }

    /** A row of items of one lane; it stays in place when it is missing, so that no call makes objects. */
    private static final class Row {
        private boolean there;
        private int lane;
        private int size;
        private final int[] items = new int[MOST_ITEMS];

        private void begin(int newLane, int n) {
            there = true;
            lane = newLane;
            size = n;
            Arrays.fill(items, 0);
        }

        private int cut(int v) {
            if (lane == 0) {
                return (byte) v;
            }
            return lane == 1 ? (short) v : v;
        }

        private boolean holds(int i, int n) {
            // i + n could wrap around, size - i cannot once i is known to lie within
            return i >= 0 && n >= 0 && i <= size && n <= size - i;
        }
    }

    /** The bytes that were fed, and the reader of their text; at stays on the token that has the fault. */
    private static final class Tape {
        private final int[] bytes = new int[MOST_BYTES];
        private int size;
        private int at;
        private int faultNumber;

        private boolean readInto(Train to) {
            at = 0;
            faultNumber = 0;
            to.clear();
            return readLaw(to) && readTricks(to) && readCars(to);
        }

        private boolean readLaw(Train to) {
            if (!readSign('g')) {
                return false;
            }
            to.cells = readNumber(LEAST_CELLS, MOST_CELLS);
            return readSign(';');
        }

        private boolean readTricks(Train to) {
            // one round more than there is room for: it ends at the letter that has the fault
            for (int i = 0; i <= MOST_TRICKS; i++) {
                int sort = kindOfLetter(next());
                if (sort == NO_SORT) {
                    return i > 0 || faulty(1);
                }
                if (i == MOST_TRICKS) {
                    return faulty(3);
                }
                at++;
                int cell = readNumber(0, to.cells - 1);
                readSign(',');
                int power = readNumber(1, MOST_POWER);
                if (!readSign(';')) {
                    return false;
                }
                to.addTrick(sort, cell, power);
            }
            return true;
        }

        private boolean readCars(Train to) {
            for (int i = 0; i <= MOST_CARS; i++) {
                if (i > 0 && at >= size) {
                    return true;
                }
                if (next() != 'c') {
                    return faulty(1);
                }
                if (i == MOST_CARS) {
                    return faulty(3);
                }
                at++;
                int riders = readNumber(1, MOST_RIDERS);
                readSign(',');
                int nerve = readNumber(1, MOST_NERVE);
                readSign(',');
                int pace = readNumber(1, MOST_PACE);
                if (!readSign(';')) {
                    return false;
                }
                to.addCar(riders, nerve, pace);
            }
            return true;
        }

        /** Behind a fault nothing is read any more, so that at and the number stay those of the first one. */
        private boolean faulty(int number) {
            if (faultNumber == 0) {
                faultNumber = number;
            }
            return false;
        }

        private int next() {
            return at < size && at < MOST_BYTES ? bytes[at] : NONE;
        }

        private boolean readSign(int sign) {
            if (faultNumber != 0 || next() != sign) {
                return faulty(1);
            }
            at++;
            return true;
        }

        private int readNumber(int least, int most) {
            int figures = 0;
            int value = 0;
            for (int i = at; i < size && i < MOST_BYTES && within(bytes[i], '0', '9'); i++) {
                figures++;
                value = figures > 2 ? value : 10 * value + bytes[i] - '0';
            }
            if (faultNumber != 0 || figures < 1 || figures > 2) {
                faulty(1);
                return least;
            }
            if (!within(value, least, most)) {
                faulty(2);
                return least;
            }
            at += figures;
            return value;
        }

        private static int kindOfLetter(int letter) {
            switch (letter) {
                case 's': return SKELETON;
                case 'b': return BAT;
                case 'h': return HAND;
                case 'm': return MIRROR;
                case 'o': return GHOST;
                default: return NO_SORT;
            }
        }
    }

    /** A train as it stands at one tick; none stands while there are no cars. */
    private static final class Train {
        private int cells;
        private int tricks;
        private int cars;
        private int tick;
        private int running;
        private final int[] kind = new int[MOST_TRICKS];
        private final int[] spot = new int[MOST_TRICKS];
        private final int[] power = new int[MOST_TRICKS];
        private final boolean[] on = new boolean[MOST_TRICKS];
        private final int[] met = new int[MOST_TRICKS];
        private final int[] riders = new int[MOST_CARS];
        private final int[] nerve = new int[MOST_CARS];
        private final int[] pace = new int[MOST_CARS];
        private final int[] where = new int[MOST_CARS];
        private final int[] fear = new int[MOST_CARS];
        private final int[] screams = new int[MOST_CARS];
        private final boolean[] halted = new boolean[MOST_CARS];
        private final int[] rank = new int[MOST_CARS];
        private final int[] inCell = new int[MOST_CELLS];

        private void clear() {
            cells = 0;
            tricks = 0;
            cars = 0;
            tick = 0;
            running = 0;
            Arrays.fill(inCell, NOBODY);
        }

        private void addTrick(int newKind, int cell, int newPower) {
            if (tricks >= MOST_TRICKS) {
                return;
            }
            kind[tricks] = newKind;
            spot[tricks] = cell;
            power[tricks] = newPower;
            on[tricks] = true;
            met[tricks] = 0;
            tricks++;
        }

        private void addCar(int newRiders, int newNerve, int newPace) {
            if (cars >= MOST_CARS) {
                return;
            }
            riders[cars] = newRiders;
            nerve[cars] = newNerve;
            pace[cars] = newPace;
            where[cars] = WAITS;
            fear[cars] = 0;
            screams[cars] = 0;
            halted[cars] = false;
            rank[cars] = cars;
            cars++;
        }

        private void copyFrom(Train other) {
            cells = other.cells;
            tricks = other.tricks;
            cars = other.cars;
            tick = other.tick;
            running = other.running;
            System.arraycopy(other.kind, 0, kind, 0, MOST_TRICKS);
            System.arraycopy(other.spot, 0, spot, 0, MOST_TRICKS);
            System.arraycopy(other.power, 0, power, 0, MOST_TRICKS);
            System.arraycopy(other.on, 0, on, 0, MOST_TRICKS);
            System.arraycopy(other.met, 0, met, 0, MOST_TRICKS);
            System.arraycopy(other.riders, 0, riders, 0, MOST_CARS);
            System.arraycopy(other.nerve, 0, nerve, 0, MOST_CARS);
            System.arraycopy(other.pace, 0, pace, 0, MOST_CARS);
            System.arraycopy(other.where, 0, where, 0, MOST_CARS);
            System.arraycopy(other.fear, 0, fear, 0, MOST_CARS);
            System.arraycopy(other.screams, 0, screams, 0, MOST_CARS);
            System.arraycopy(other.halted, 0, halted, 0, MOST_CARS);
            System.arraycopy(other.rank, 0, rank, 0, MOST_CARS);
            System.arraycopy(other.inCell, 0, inCell, 0, MOST_CELLS);
        }

        // -- a tick

        private void tickOn() {
            // a car only comes into cells that this loop has left behind, so each goes once
            for (int cell = cells - 1; cell >= 0; cell--) {
                if (inCell[cell] != NOBODY) {
                    goOn(inCell[cell]);
                }
            }
            if (inCell[0] == NOBODY) {
                letIn();
            }
            tick++;
        }

        /** What is foretold does not tell the tick, and nothing else changes once all are out. */
        private void tickOnFor(int n) {
            for (int i = 0; i < n && !allOut(); i++) {
                tickOn();
            }
        }

        private void goOn(int car) {
            if (halted[car]) {
                halted[car] = false;
                return;
            }
            for (int step = 0; step < pace[car] && !halted[car]; step++) {
                int from = where[car];
                int to = from + 1;
                if (to < cells && inCell[to] != NOBODY) {
                    return;
                }
                inCell[from] = NOBODY;
                if (to >= cells) {
                    where[car] = OUT;
                    running--;
                    return;
                }
                comeInto(car, to);
            }
        }

        private void letIn() {
            for (int k = 0; k < cars; k++) {
                int car = rank[k];
                if (where[car] == WAITS) {
                    running++;
                    comeInto(car, 0);
                    return;
                }
            }
        }

        private void comeInto(int car, int cell) {
            where[car] = cell;
            inCell[cell] = car;
            for (int trick = 0; trick < tricks; trick++) {
                if (on[trick] && spot[trick] == cell) {
                    met[trick] = Math.min(met[trick] + 1, MOST_MET);
                    fear[car] += fright(trick, car);
                }
            }
            if (fear[car] >= nerve[car]) {
                screams[car]++;
                fear[car] = 0;
                halted[car] = true;
            }
        }

        private int fright(int trick, int car) {
            int strength = power[trick];
            switch (kind[trick]) {
                case SKELETON: return strength;
                case BAT: return met[trick] % 2 == 0 ? strength : 0;
                case HAND: return running == 1 ? 2 * strength : strength;
                case MIRROR: return strength * riders[car];
                case GHOST: return tick % 2 == 1 ? strength * riders[car] : 0;
                default: return 0;
            }
        }

        private void goAgain(int car) {
            where[car] = WAITS;
            fear[car] = 0;
            halted[car] = false;
        }

        private void switchTo(int bits) {
            for (int trick = 0; trick < tricks; trick++) {
                on[trick] = (bits >> trick & 1) == 1;
            }
        }

        // -- what is so

        private boolean allOut() {
            for (int car = 0; car < cars; car++) {
                if (where[car] != OUT) {
                    return false;
                }
            }
            return true;
        }

        private int bitsWaiting() {
            return bitsBetween(WAITS, WAITS);
        }

        private int bitsRunning() {
            return bitsBetween(0, MOST_CELLS - 1);
        }

        private int bitsOut() {
            return bitsBetween(OUT, OUT);
        }

        private int bitsBetween(int least, int most) {
            int bits = 0;
            for (int car = 0; car < cars; car++) {
                if (within(where[car], least, most)) {
                    bits |= 1 << car;
                }
            }
            return bits;
        }

        private int bitsOn() {
            int bits = 0;
            for (int trick = 0; trick < tricks; trick++) {
                bits |= oneIf(on[trick]) << trick;
            }
            return bits;
        }

        private int tricksIn(int cell) {
            int bits = 0;
            for (int trick = 0; trick < tricks; trick++) {
                bits |= oneIf(spot[trick] == cell) << trick;
            }
            return bits;
        }

        private int allScreams() {
            return sum(screams, cars);
        }

        private int allFear() {
            return sum(fear, cars);
        }

        private int allMet() {
            return sum(met, tricks);
        }

        private static int sum(int[] of, int n) {
            int all = 0;
            for (int i = 0; i < n && i < of.length; i++) {
                all += of[i];
            }
            return all;
        }

        /** Sets of cars that are not out with v riders: how many (0), cars in all of them (1), in any (2). */
        private int setsWith(int v, int what) {
            int outside = bitsOut();
            int many = 0;
            int inAll = (1 << cars) - 1;
            int inAny = 0;
            for (int set = 0; set < 1 << cars; set++) {
                if ((set & outside) == 0 && ridersOf(set) == v) {
                    many++;
                    inAll &= set;
                    inAny |= set;
                }
            }
            if (what == 0) {
                return many;
            }
            if (what == 2) {
                return inAny;
            }
            return many == 0 ? 0 : inAll;
        }

        private int ridersOf(int set) {
            int all = 0;
            for (int car = 0; car < cars; car++) {
                all += (set >> car & 1) * riders[car];
            }
            return all;
        }

        private int takings(int trick, int n) {
            int all = allMet();
            if (all == 0) {
                return 0;
            }
            int rest = n;
            int metBefore = 0;
            for (int i = 0; i < tricks; i++) {
                rest -= n * met[i] / all;
                metBefore += oneIf(i < trick && met[i] > 0);
            }
            return n * met[trick] / all + oneIf(met[trick] > 0 && metBefore < rest);
        }
    }

    /** The trains ahead of the latest acts, in a ring: when it is full, the oldest gives its place. */
    private static final class Acts {
        private final Train[] before = new Train[MOST_ACTS];
        private int next;
        private int kept;

        private Acts() {
            for (int i = 0; i < MOST_ACTS; i++) {
                before[i] = new Train();
            }
        }

        private void keep(Train train) {
            before[next].copyFrom(train);
            next = (next + 1) % MOST_ACTS;
            kept = Math.min(kept + 1, MOST_ACTS);
        }

        private void takeBack(Train train) {
            next = (next + MOST_ACTS - 1) % MOST_ACTS;
            kept--;
            train.copyFrom(before[next]);
        }
    }

    /** What is foretold: it is tried on a train of its own, so that nothing changes. */
    private static final class Foresight {
        private final Train trial = new Train();
        private final int[] told = new int[MOST_TOLD];
        private int toldTicks;
        private final int[] bestOrder = new int[MOST_CARS];
        private final int[] tried = new int[MOST_CARS];
        private final int[] best = new int[MOST_CARS];
        private int orderTicks;
        private int orderScreams;
        private final int[] comesOf = new int[1 << MOST_TRICKS];

        /** The order is dear to find and is asked for car by car, so it is kept until the train changes. */
        private void forget() {
            orderTicks = 0;
        }

        private Train behind(Train now, int n) {
            trial.copyFrom(now);
            trial.tickOnFor(n);
            return trial;
        }

        private int firstTime(Train now, int car, int how) {
            trial.copyFrom(now);
            for (int n = 0; n <= MOST_AHEAD; n++) {
                if (hasCome(car, how, now.screams[car])) {
                    return n;
                }
                trial.tickOn();
            }
            return NONE;
        }

        private boolean hasCome(int car, int how, int screamsBefore) {
            switch (how) {
                case 0: return trial.where[car] != WAITS;
                case 1: return trial.screams[car] > screamsBefore;
                default: return trial.where[car] == OUT;
            }
        }

        private int firstAllOut(Train now) {
            trial.copyFrom(now);
            for (int n = 0; n <= MOST_AHEAD; n++) {
                if (trial.allOut()) {
                    return n;
                }
                trial.tickOn();
            }
            return NONE;
        }

        // -- order

        private void findOrder(Train now, int n) {
            if (orderTicks == n) {
                return;
            }
            orderTicks = n;
            orderScreams = -1;
            int mostOut = -1;
            int waiting = listWaitingFirst(now);
            boolean more = true;
            for (int i = 0; i < MOST_ORDERS && more; i++) {
                trial.copyFrom(now);
                System.arraycopy(tried, 0, trial.rank, 0, MOST_CARS);
                trial.tickOnFor(n);
                int screams = trial.allScreams();
                int out = Integer.bitCount(trial.bitsOut());
                if (screams > orderScreams || screams == orderScreams && out > mostOut) {
                    orderScreams = screams;
                    mostOut = out;
                    System.arraycopy(tried, 0, best, 0, MOST_CARS);
                }
                more = nextOrder(waiting);
            }
            mergeBest(waiting, now.cars);
        }

        /** Only cars that wait now can ever be let in by rank here: orders of the others make no difference. */
        private int listWaitingFirst(Train now) {
            int waiting = 0;
            for (int car = 0; car < now.cars; car++) {
                if (now.where[car] == WAITS) {
                    tried[waiting] = car;
                    waiting++;
                }
            }
            int next = waiting;
            for (int car = 0; car < now.cars; car++) {
                if (now.where[car] != WAITS) {
                    tried[next] = car;
                    next++;
                }
            }
            return waiting;
        }

        /** The next order by numbers of the first n that are tried; false behind the last. */
        private boolean nextOrder(int n) {
            int i = n - 2;
            while (i >= 0 && tried[i] > tried[i + 1]) {
                i--;
            }
            if (i < 0) {
                return false;
            }
            int j = n - 1;
            while (j > i && tried[j] < tried[i]) {
                j--;
            }
            swapTried(i, j);
            for (int low = i + 1, high = n - 1; low < high; low++, high--) {
                swapTried(low, high);
            }
            return true;
        }

        private void swapTried(int i, int j) {
            int kept = tried[i];
            tried[i] = tried[j];
            tried[j] = kept;
        }

        /** Of all orders in which those that wait follow one another as in the best, the first by numbers. */
        private void mergeBest(int waiting, int cars) {
            int waits = 0;
            int other = waiting;
            for (int k = 0; k < cars; k++) {
                if (other >= cars || waits < waiting && best[waits] < best[other]) {
                    bestOrder[k] = best[waits];
                    waits++;
                } else {
                    bestOrder[k] = best[other];
                    other++;
                }
            }
        }

        // -- spot, calm, nerves

        private int mostAt(Train now, int trick, int n, int what) {
            int bestCell = 0;
            int most = -1;
            for (int cell = 0; cell < now.cells; cell++) {
                trial.copyFrom(now);
                trial.spot[trick] = cell;
                trial.tickOnFor(n);
                if (trial.allScreams() > most) {
                    most = trial.allScreams();
                    bestCell = cell;
                }
            }
            return what == 0 ? bestCell : most;
        }

        private int fewestOff(Train now, int n) {
            int bestOff = NONE;
            int fewest = MOST_TRICKS + 1;
            for (int off = 0; off < 1 << now.tricks; off++) {
                if (Integer.bitCount(off) < fewest && isCalm(now, off, n)) {
                    bestOff = off;
                    fewest = Integer.bitCount(off);
                }
            }
            return bestOff;
        }

        private boolean isCalm(Train now, int off, int n) {
            trial.copyFrom(now);
            trial.switchTo(~off);
            trial.tickOnFor(n);
            return trial.allScreams() == now.allScreams();
        }

        private int leastNerve(Train now, int car, int n) {
            for (int nerve = 1; nerve <= MOST_NERVE; nerve++) {
                trial.copyFrom(now);
                trial.nerve[car] = nerve;
                trial.tickOnFor(n);
                if (trial.screams[car] == now.screams[car]) {
                    return nerve;
                }
            }
            return NONE;
        }

        // -- turns

        private int switchingByTurns(Train now, int n, int m) {
            int sets = 1 << now.tricks;
            for (int bits = 0; bits < sets; bits++) {
                trial.copyFrom(now);
                trial.switchTo(bits);
                trial.tickOnFor(m);
                comesOf[bits] = trial.allScreams();
            }
            for (int turn = n - 1; turn >= 0; turn--) {
                if (turn % 2 == 0) {
                    switchOnForMost(now.tricks);
                } else {
                    switchOffForFewest(now.tricks);
                }
            }
            return comesOf[now.bitsOn()];
        }

        private void switchOnForMost(int tricks) {
            // upwards: sets with one more are yet what comes of them behind this turn
            for (int bits = 0; bits < 1 << tricks; bits++) {
                int most = comesOf[bits];
                for (int trick = 0; trick < tricks; trick++) {
                    most = Math.max(most, comesOf[bits | 1 << trick]);
                }
                comesOf[bits] = most;
            }
        }

        private void switchOffForFewest(int tricks) {
            // downwards: sets with one fewer are yet what comes of them behind this turn
            for (int bits = (1 << tricks) - 1; bits >= 0; bits--) {
                int fewest = comesOf[bits];
                for (int trick = 0; trick < tricks; trick++) {
                    fewest = Math.min(fewest, comesOf[bits & ~(1 << trick)]);
                }
                comesOf[bits] = fewest;
            }
        }

        // -- by a row of fear

        private void hear(Row row, int i, int n) {
            toldTicks = row.holds(i, n) ? Math.min(n, MOST_TOLD) : 0;
            if (toldTicks > 0) {
                System.arraycopy(row.items, i, told, 0, toldTicks);
            }
        }

        private boolean isAsTold(int car) {
            for (int i = 0; i < toldTicks; i++) {
                trial.tickOn();
                if (trial.fear[car] != told[i]) {
                    return false;
                }
            }
            return true;
        }

        /** Kinds (0), powers (1) or cells (2) by which a trick, otherwise as it is, fits what was told. */
        private int fittingTricks(Train now, int trick, int which, int car) {
            int least = which == 2 ? 0 : 1;
            int most = which == 0 ? GHOST : which == 1 ? MOST_POWER : now.cells - 1;
            int bits = 0;
            for (int v = least; v <= most; v++) {
                trial.copyFrom(now);
                switch (which) {
                    case 0: trial.kind[trick] = v; break;
                    case 1: trial.power[trick] = v; break;
                    default: trial.spot[trick] = v; break;
                }
                bits |= oneIf(isAsTold(car)) << v;
            }
            return bits;
        }

        private int fittingNerves(Train now, int car, int what) {
            int many = 0;
            int least = NONE;
            for (int nerve = 1; nerve <= MOST_NERVE; nerve++) {
                trial.copyFrom(now);
                trial.nerve[car] = nerve;
                if (isAsTold(car)) {
                    many++;
                    least = least == NONE ? nerve : least;
                }
            }
            return what == 0 ? many : least;
        }

        // -- fail, nights

        private long screamsIfFailing(Train now, int car, int n, int p, int what) {
            int on = now.bitsOn();
            long above = 0;
            long below = 0;
            for (int failed = 0; failed < 1 << now.tricks; failed++) {
                if ((failed & on) == failed) {
                    trial.copyFrom(now);
                    trial.switchTo(on & ~failed);
                    trial.tickOnFor(n);
                    int many = Integer.bitCount(failed);
                    long cases = power(p, many) * power(10 - p, Integer.bitCount(on) - many);
                    below += cases;
                    above += trial.screams[car] > now.screams[car] ? cases : 0;
                }
            }
            long divisor = commonDivisor(above, below);
            if (divisor == 0) {
                return 0;
            }
            return (what == 0 ? above : below) / divisor;
        }

        private static long power(long of, int n) {
            long product = 1;
            for (int i = 0; i < n; i++) {
                product *= of;
            }
            return product;
        }

        private static long commonDivisor(long a, long b) {
            long greater = a;
            long smaller = b;
            // of numbers up to 10 to the 5th fewer than 30 rounds are needed
            for (int i = 0; i < 100 && smaller != 0; i++) {
                long rest = greater % smaller;
                greater = smaller;
                smaller = rest;
            }
            return greater;
        }

        private int nightsByDraws(Train now, int n, int seed, int what) {
            trial.copyFrom(now);
            long x = seed;
            for (int i = 0; i < n; i++) {
                x = x * 16807 % 2147483647;
                draw(x);
                trial.tickOn();
            }
            return what == 0 ? trial.allScreams() - now.allScreams() : trial.allFear();
        }

        private void draw(long x) {
            if (trial.cars == 0 || trial.tricks == 0 || trial.cells == 0) {
                return;
            }
            int car = (int) (x % trial.cars);
            if (trial.where[car] == OUT) {
                trial.goAgain(car);
            } else if (x % 3 == 0) {
                trial.spot[(int) (x % trial.tricks)] = (int) (x % trial.cells);
            }
        }
    }

    /** Asks of tricks, answered by bodies, and the trace of those that began. */
    private static final class Asker {
        private static final int DEEPEST = 16;
        private static final int[] SIZE_BODY = {10, 11, 12, 11, 13, 14};
        private static final int[] MARK_BODY = {20, 21, 24, 22, 23, 23};
        private static final int[] IS_TOO = {-1, TRICK, SKELETON, SKELETON, TRICK, MIRROR};

        private final int[] bodies = new int[MOST_TRACE];
        private int traced;

        private static boolean isOfKind(int kind, int asked) {
            int one = kind;
            for (int i = 0; i < KINDS && one >= 0 && one < KINDS; i++) {
                if (one == asked) {
                    return true;
                }
                one = IS_TOO[one];
            }
            return false;
        }

        private int answer(Train train, int one, int what) {
            traced = 0;
            int kind = train.kind[one];
            if (!within(kind, 0, KINDS - 1)) {
                return NONE;
            }
            return give(this, train, one, what == 0 ? SIZE_BODY[kind] : MARK_BODY[kind], 0);
        }

        /** What a body gives; it asks others of the same trick by the trick's own kind, as if anew. */
        private static int give(Asker to, Train of, int one, int body, int depth) {
            if (depth > DEEPEST) {
                return 0;
            }
            to.begins(body);
            int kind = of.kind[one];
            int next = depth + 1;
            switch (body) {
                case 10: return of.power[one];
                case 11: return give(to, of, one, 10, next) + give(to, of, one, MARK_BODY[kind], next);
                case 12: return 0 - give(to, of, one, 11, next);
                case 13: return give(to, of, one, 10, next) - 100;
                case 14: return 2 * give(to, of, one, 13, next);
                case 20: return one;
                case 21: return give(to, of, one, 20, next) + of.met[one];
                case 22: return give(to, of, one, 21, next) - 1000;
                case 23: return give(to, of, one, 20, next) - give(to, of, one, SIZE_BODY[kind], next);
                case 24: return 2 * give(to, of, one, 21, next);
                default: return 0;
            }
        }

        private void begins(int body) {
            if (traced < MOST_TRACE) {
                bodies[traced] = body;
                traced++;
            }
        }
    }
}
