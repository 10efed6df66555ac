import java.lang.reflect.Method;
import java.util.ArrayList;
import java.util.HashMap;
import java.util.List;
import java.util.Map;
import java.util.Random;

/** Runs of calls by fixed draws, each answered by the program and by the model: all promises, mixed. */
public final class ModelTest {
    private static final Check C = new Check("ModelTest");
    private static final int CALLS = 480;
    private static final int DEFAULT_RUNS = 250;

    /** Calls with what their arguments are, a letter each, as drawOne takes it; the number is how often. */
    private static final String[] CALLABLE = {
        "row rln 2", "set riv 3", "copy rirjm 3", "drop r 1", "feed b 1", "train - 1", "fault - 1", "undo - 5",
        "ticks T 8", "place tc 4", "flip t 4", "nerve kN 4", "again k 8", "trick tw 2", "car kw 3", "cell cw 2",
        "stand w 2", "ahead kAw 4", "show Aw 3", "when kw 4", "over - 2", "order Sk 1", "spot tSw 2", "calm Sw 2",
        "bears kS 2", "sets Vw 2", "share tH 2", "byTurns wM 1", "who twkriq 3", "nerves kwriq 2", "fails kAPw 2",
        "drawn AXw 3", "image w 1", "restore w 1", "kind t 1", "as tw 2", "ask tw 2", "trace i 1", "count w 3",
        "status - 2"};

    private final Random random;
    private final GhostTrain program = new GhostTrain();
    private final Model model = new Model();
    private final List<String> told = new ArrayList<>();
    private final Map<String, Method> ofProgram;
    private final Map<String, Method> ofModel;
    private boolean same = true;
    private int calls;

    private ModelTest(long seed, Map<String, Method> ofProgram, Map<String, Method> ofModel) {
        random = new Random(seed);
        this.ofProgram = ofProgram;
        this.ofModel = ofModel;
    }

    public static void main(String[] args) throws ReflectiveOperationException {
        int runs = args.length > 0 ? Integer.parseInt(args[0]) : DEFAULT_RUNS;
        long first = args.length > 1 ? Long.parseLong(args[1]) : 1;
        Map<String, Method> ofProgram = methodsOf(GhostTrain.class);
        Map<String, Method> ofModel = methodsOf(Model.class);
        List<String> bag = new ArrayList<>();
        for (String one : CALLABLE) {
            String[] parts = one.split(" ");
            for (int i = 0; i < Integer.parseInt(parts[2]); i++) {
                bag.add(one);
            }
        }
        for (long seed = first; seed < first + runs; seed++) {
            new ModelTest(seed, ofProgram, ofModel).run(seed, bag);
        }
        C.end();
    }

    private static Map<String, Method> methodsOf(Class<?> of) {
        Map<String, Method> all = new HashMap<>();
        for (Method m : of.getDeclaredMethods()) {
            if (java.lang.reflect.Modifier.isPublic(m.getModifiers())) {
                all.put(m.getName(), m);
            }
        }
        return all;
    }

    private void run(long seed, List<String> bag) throws ReflectiveOperationException {
        if (random.nextInt(12) != 0) {
            tell(text());
        }
        while (same && calls < CALLS) {
            int draw = random.nextInt(100);
            if (draw == 0) {
                tell(random.nextInt(3) == 0 ? spoilt(text()) : text());
            } else if (draw < 4) {
                tellFears();
            } else {
                String[] parts = bag.get(random.nextInt(bag.size())).split(" ");
                String kinds = parts[1].equals("-") ? "" : parts[1];
                int[] args = new int[kinds.length()];
                for (int i = 0; i < args.length; i++) {
                    args[i] = drawOne(kinds.charAt(i));
                }
                call(parts[0], args);
            }
        }
        if (!same) {
            System.out.println("ModelTest: run " + seed + ", its calls: " + String.join(" ", told));
        }
    }

    private void call(String name, int... args) throws ReflectiveOperationException {
        Object[] boxed = new Object[args.length];
        for (int i = 0; i < args.length; i++) {
            boxed[i] = args[i];
        }
        String text = name + java.util.Arrays.toString(args).replace('[', '(').replace(']', ')').replace(" ", "");
        told.add(text);
        calls++;
        long got = ((Number) ofProgram.get(name).invoke(program, boxed)).longValue();
        long want = ((Number) ofModel.get(name).invoke(model, boxed)).longValue();
        same &= got == want;
        C.due(text, got, want);
    }

    private void tell(String text) throws ReflectiveOperationException {
        for (int i = 0; same && i < text.length() && i < 101; i++) {
            call("feed", text.charAt(i));
        }
        call("train");
        call("fault");
    }

    /** Writes what a car's fear will be, at times with a change undone or made, so that rows often fit. */
    private void tellFears() throws ReflectiveOperationException {
        int cars = program.count(2);
        if (cars == 0) {
            return;
        }
        int car = random.nextInt(cars);
        int n = 1 + random.nextInt(12);
        int row = random.nextInt(8);
        call("row", row, random.nextInt(3), n + random.nextInt(3));
        for (int i = 0; same && i < n; i++) {
            call("set", row, i, program.ahead(car, i + 1, 1));
        }
        if (random.nextInt(3) == 0) {
            call("place", drawOne('t'), drawOne('c'));
        }
        for (int trick = 0; trick < program.count(1); trick++) {
            call("who", trick, random.nextInt(3), car, row, 0, n);
        }
        call("nerves", car, random.nextInt(2), row, 0, n);
    }

    private String text() {
        int cells = 4 + random.nextInt(9);
        StringBuilder s = new StringBuilder("g").append(cells).append(';');
        int tricks = 1 + random.nextInt(5);
        for (int i = 0; i < tricks; i++) {
            s.append("sbhmo".charAt(random.nextInt(5))).append(random.nextInt(cells)).append(',');
            s.append(1 + random.nextInt(9)).append(';');
        }
        int cars = random.nextInt(4) == 0 ? 6 : 1 + random.nextInt(4);
        int most = random.nextBoolean() ? 60 : 15;
        for (int i = 0; i < cars; i++) {
            s.append('c').append(1 + random.nextInt(4)).append(',').append(1 + random.nextInt(most)).append(',');
            s.append(1 + random.nextInt(3)).append(';');
        }
        return s.toString();
    }

    private String spoilt(String text) {
        StringBuilder s = new StringBuilder(text);
        int at = random.nextInt(s.length());
        String signs = "gsbhmocx0123456789,; A\u00ff";
        char sign = signs.charAt(random.nextInt(signs.length()));
        switch (random.nextInt(5)) {
            case 0: s.deleteCharAt(at); break;
            case 1: s.insert(at, sign); break;
            case 2: s.setCharAt(at, sign); break;
            case 3: s.setLength(at); break;
            default: s.append(text.substring(3)); break;
        }
        return s.toString();
    }

    private int upTo(int most) {
        return random.nextInt(most + 1);
    }

    private int drawOne(char kind) {
        int draw = random.nextInt(200);
        if (draw < 4) {
            return new int[] {-1, Integer.MAX_VALUE, Integer.MIN_VALUE, 64}[draw];
        }
        boolean edge = draw < 12;
        switch (kind) {
            case 'r': return upTo(edge ? 8 : 3);
            case 'l': return upTo(edge ? 3 : 2);
            case 'n': return edge ? upTo(42) - 1 : upTo(12);
            case 'i', 'j': return edge ? upTo(42) - 1 : upTo(6);
            case 'm': return edge ? upTo(42) - 1 : upTo(5);
            case 'v': return edge ? random.nextInt() : upTo(20);
            case 'b': return edge ? upTo(258) - 1 : "gsc4,;".charAt(random.nextInt(6));
            case 'T': return edge ? upTo(26) : 1 + upTo(4);
            case 't': return upTo(edge ? 5 : Math.max(0, program.count(1) - 1));
            case 'k': return upTo(edge ? 6 : Math.max(0, program.count(2) - 1)) - (random.nextInt(20) == 0 ? 1 : 0);
            case 'c': return edge ? upTo(13) - 1 : upTo(Math.max(3, program.stand(0) - 1));
            case 'N': return edge ? upTo(62) : 1 + upTo(24);
            case 'w': return edge ? upTo(10) - 1 : upTo(random.nextBoolean() ? 1 : 5);
            case 'A': return edge ? upTo(62) : upTo(25);
            case 'S': return edge ? upTo(52) : 1 + upTo(18);
            case 'V': return edge ? upTo(26) - 1 : upTo(10);
            case 'H': return edge ? upTo(1001) - 1 : upTo(999);
            case 'M': return edge ? upTo(22) : 1 + upTo(12);
            case 'P': return upTo(edge ? 11 : 10);
            case 'X': return edge ? upTo(1000001) : 1 + upTo(999998);
            case 'q': return edge ? upTo(14) : 1 + upTo(3);
            default: throw new IllegalArgumentException("no such argument: " + kind);
        }
    }
}
