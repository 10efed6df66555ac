import java.io.IOException;
import java.lang.reflect.Constructor;
import java.lang.reflect.Field;
import java.lang.reflect.InvocationTargetException;
import java.lang.reflect.Method;
import java.lang.reflect.Modifier;
import java.nio.file.Files;
import java.nio.file.Path;
import java.util.ArrayList;
import java.util.Arrays;
import java.util.List;
import java.util.Set;
import java.util.TreeSet;
import java.util.regex.Matcher;
import java.util.regex.Pattern;

/** The public face, rules of LANGUAGE.md that can be seen from outside, and that no call ever throws. */
public final class FaceTest {
    private static final Check C = new Check("FaceTest");
    private static final Path SOURCE = Path.of("src/main/java/GhostTrain.java");

    /** The document's methods, each with how many ints it takes. */
    private static final String FACE = "row3 set3 copy5 drop1 feed1 train0 fault0 undo0 ticks1 place2 flip1 nerve2 "
        + "again1 trick2 car2 cell2 stand1 ahead3 show2 when2 over0 order2 spot3 calm2 bears2 sets2 share2 byTurns2 "
        + "who6 nerves5 fails4 drawn3 image1 restore1 kind1 as2 ask2 trace1 count1 status0";

    public static void main(String[] args) throws IOException, ReflectiveOperationException {
        face();
        members();
        source();
        neverThrows();
        C.end();
    }

    private static void dueSame(String what, Object got, Object want) {
        C.due(what + ": " + got + " where due is " + want, got.equals(want) ? 1 : 0, 1);
    }

    private static void face() throws IllegalAccessException {
        Class<?> c = GhostTrain.class;
        dueSame("the class is public and final", c.getModifiers(), Modifier.PUBLIC | Modifier.FINAL);
        dueSame("constructors", Arrays.toString(c.getDeclaredConstructors()), "[public GhostTrain()]");
        Set<String> methods = new TreeSet<>();
        for (Method m : c.getDeclaredMethods()) {
            if (!Modifier.isPrivate(m.getModifiers())) {
                methods.add(m.getName() + m.getParameterCount());
                Class<?> answers = m.getName().equals("fails") ? long.class : int.class;
                dueSame("what " + m.getName() + " answers", m.getReturnType(), answers);
                dueSame("modifiers of " + m.getName(), m.getModifiers(), Modifier.PUBLIC);
            }
        }
        dueSame("methods", methods, new TreeSet<>(List.of(FACE.split(" "))));
        Set<String> constants = new TreeSet<>();
        for (Field f : c.getDeclaredFields()) {
            if (!Modifier.isPrivate(f.getModifiers())) {
                constants.add(f.toString() + f.getInt(null));
            }
        }
        String head = "public static final int GhostTrain.";
        dueSame("constants", constants, new TreeSet<>(List.of(head + "NONE-1000000", head + "BAD-1000001",
            head + "STATE-1000002", head + "FULL-1000003")));
    }

    private static void members() {
        Set<String> names = new TreeSet<>(List.of(FACE.replaceAll("[0-9]", "").split(" ")));
        List<Class<?>> classes = new ArrayList<>(List.of(GhostTrain.class.getDeclaredClasses()));
        C.due("at most twelve classes", classes.size() < 12 ? 1 : 0, 1);
        for (Class<?> c : classes) {
            C.due(c + " is static", Modifier.isStatic(c.getModifiers()) ? 1 : 0, 1);
            C.due(c + " is not public", c.getModifiers() & (Modifier.PUBLIC | Modifier.PROTECTED), 0);
        }
        classes.add(GhostTrain.class);
        for (Class<?> c : classes) {
            for (Method m : c.getDeclaredMethods()) {
                boolean hidden = !Modifier.isPublic(m.getModifiers());
                C.due(m + " has no public one's name", hidden && names.contains(m.getName()) ? 1 : 0, 0);
                C.due(m + " has at most seven parameters", m.getParameterCount() <= 7 ? 1 : 0, 1);
            }
            int fields = 0;
            for (Field f : c.getDeclaredFields()) {
                fields += Modifier.isStatic(f.getModifiers()) ? 0 : 1;
                boolean changes = Modifier.isStatic(f.getModifiers()) && !Modifier.isFinal(f.getModifiers());
                C.due(f + " is static and not final", changes ? 1 : 0, 0);
            }
            C.due(c + " has at most twenty fields", fields <= 20 ? 1 : 0, 1);
            for (Constructor<?> one : c.getDeclaredConstructors()) {
                C.due(one + " takes few", one.getParameterCount() <= 7 ? 1 : 0, 1);
            }
        }
    }

    private static void source() throws IOException {
        String text = Files.readString(SOURCE);
        String code = text.replaceAll("(?s)/\\*.*?\\*/", "").replaceAll("//[^\n]*", "");
        String[] banned = {"\\bthrow\\b", "\\btry\\b", "\\bcatch\\b", "\\bsynchronized\\b", "\\bassert\\b", "->", "::",
            "Exact\\b", "\\bdouble\\b", "\\bfloat\\b", "\\bSystem\\.(?!arraycopy)", "\\bpackage\\b", "@", "\\bextends\\b",
            "\\bnull\\b", "\\bwhile \\(true\\)"};
        for (String one : banned) {
            Matcher m = Pattern.compile(one).matcher(code);
            C.due(one + " in the source", m.find() ? 1 : 0, 0);
        }
        Matcher imports = Pattern.compile("import ([^;]*);").matcher(code);
        while (imports.find()) {
            dueSame("an import", imports.group(1), "java.util.Arrays");
        }
        C.due("signs of the source", text.chars().allMatch(s -> s < 128) ? 1 : 0, 1);
        int longest = 0;
        int began = 0;
        String[] lines = text.split("\n");
        for (int i = 0; i < lines.length; i++) {
            if (lines[i].matches(" {4,8}(public|private) .*\\) \\{")) {
                began = i;
            }
            if (lines[i].matches(" {4,8}\\}")) {
                longest = Math.max(longest, i - began);
            }
        }
        C.due("methods of at most sixty lines", longest <= 60 ? 1 : 0, 1);
    }

    private static void neverThrows() throws ReflectiveOperationException {
        int[] some = {Integer.MIN_VALUE, -1, 0, 1, 2, 12, Integer.MAX_VALUE};
        String all = "g12;s11,9;b0,9;h0,1;m4,3;o5,2;c4,60,3;c1,1,1;c2,9,2;c3,30,1;c1,1,3;c4,2,2;";
        for (int state = 0; state < 4; state++) {
            for (Method m : GhostTrain.class.getDeclaredMethods()) {
                if (Modifier.isPublic(m.getModifiers())) {
                    GhostTrain x = new GhostTrain();
                    if (state > 0) {
                        Check.tell(x, state == 1 ? "g4;h0,1;c1,1,1;" : all);
                        x.ticks(state == 3 ? 24 : 5);
                        x.row(1, 2, 12);
                    }
                    callAll(x, m, some);
                }
            }
        }
    }

    private static void callAll(GhostTrain x, Method m, int[] some) throws ReflectiveOperationException {
        int parameters = m.getParameterCount();
        int combinations = 1;
        for (int i = 0; i < parameters; i++) {
            combinations *= some.length;
        }
        int step = combinations > 20000 ? 5 : 1;
        for (int n = 0; n < combinations; n += step) {
            Object[] args = new Object[parameters];
            int left = n;
            for (int i = 0; i < parameters; i++) {
                args[i] = some[left % some.length];
                left /= some.length;
            }
            try {
                m.invoke(x, args);
            } catch (InvocationTargetException e) {
                C.due(m.getName() + Arrays.toString(args) + " throws " + e.getCause(), 1, 0);
            }
        }
    }
}
