import java.lang.reflect.Field;
import java.lang.reflect.InvocationTargetException;
import java.lang.reflect.Method;
import java.lang.reflect.Modifier;
import java.util.Arrays;
import java.util.List;
import java.util.Set;
import java.util.TreeSet;

/** The public face, and that no call ever throws. */
public final class FaceTest {
    private static final Check C = new Check("FaceTest");

    /** The document's methods, each with how many ints it takes. */
    private static final String FACE = "row3 set3 copy5 drop1 feed1 train0 fault0 undo0 ticks1 place2 flip1 nerve2 "
        + "again1 trick2 car2 cell2 stand1 ahead3 show2 when2 over0 order2 spot3 calm2 bears2 sets2 share2 byTurns2 "
        + "who6 nerves5 fails4 drawn3 image1 restore1 kind1 as2 ask2 trace1 count1 status0";

    public static void main(String[] args) throws ReflectiveOperationException {
        face();
        neverThrows();
        C.end();
    }

    private static void dueSame(String what, Object got, Object want) {
        C.due(what + ": " + got + " where due is " + want, got.equals(want) ? 1 : 0, 1);
    }

    private static void face() throws IllegalAccessException {
        Class<?> c = GhostTrain.class;
        dueSame("the class is public and final", c.getModifiers(), Modifier.PUBLIC | Modifier.FINAL);
        dueSame("constructors", Arrays.toString(c.getDeclaredConstructors()), "[public GhostTrain()]");
        Set<String> methods = new TreeSet<>();
        for (Method m : c.getDeclaredMethods()) {
            if (!Modifier.isPrivate(m.getModifiers())) {
                methods.add(m.getName() + m.getParameterCount());
                Class<?> answers = m.getName().equals("fails") ? long.class : int.class;
                dueSame("what " + m.getName() + " answers", m.getReturnType(), answers);
                dueSame("modifiers of " + m.getName(), m.getModifiers(), Modifier.PUBLIC);
            }
        }
        dueSame("methods", methods, new TreeSet<>(List.of(FACE.split(" "))));
        Set<String> constants = new TreeSet<>();
        for (Field f : c.getDeclaredFields()) {
            if (!Modifier.isPrivate(f.getModifiers())) {
                constants.add(f.toString() + f.getInt(null));
            }
        }
        String head = "public static final int GhostTrain.";
        dueSame("constants", constants, new TreeSet<>(List.of(head + "NONE-1000000", head + "BAD-1000001",
            head + "STATE-1000002", head + "FULL-1000003")));
    }

    private static void neverThrows() throws ReflectiveOperationException {
        int[] some = {Integer.MIN_VALUE, -1, 0, 1, 2, 12, Integer.MAX_VALUE};
        String all = "g12;s11,9;b0,9;h0,1;m4,3;o5,2;c4,60,3;c1,1,1;c2,9,2;c3,30,1;c1,1,3;c4,2,2;";
        for (int state = 0; state < 4; state++) {
            for (Method m : GhostTrain.class.getDeclaredMethods()) {
                if (Modifier.isPublic(m.getModifiers())) {
                    GhostTrain x = new GhostTrain();
                    if (state > 0) {
                        Check.tell(x, state == 1 ? "g4;h0,1;c1,1,1;" : all);
                        x.ticks(state == 3 ? 24 : 5);
                        x.row(1, 2, 12);
                    }
                    callAll(x, m, some);
                }
            }
        }
    }

    private static void callAll(GhostTrain x, Method m, int[] some) throws ReflectiveOperationException {
        int parameters = m.getParameterCount();
        int combinations = 1;
        for (int i = 0; i < parameters; i++) {
            combinations *= some.length;
        }
        int step = combinations > 20000 ? 5 : 1;
        for (int n = 0; n < combinations; n += step) {
            Object[] args = new Object[parameters];
            int left = n;
            for (int i = 0; i < parameters; i++) {
                args[i] = some[left % some.length];
                left /= some.length;
            }
            try {
                m.invoke(x, args);
            } catch (InvocationTargetException e) {
                C.due(m.getName() + Arrays.toString(args) + " throws " + e.getCause(), 1, 0);
            }
        }
    }
}
