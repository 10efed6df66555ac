import java.io.IOException;
import java.lang.reflect.Constructor;
import java.lang.reflect.Field;
import java.lang.reflect.Method;
import java.lang.reflect.Modifier;
import java.nio.file.Files;
import java.nio.file.Path;
import java.util.ArrayList;
import java.util.Arrays;
import java.util.HashSet;
import java.util.List;
import java.util.Map;
import java.util.Set;
import java.util.TreeMap;
import java.util.regex.Matcher;
import java.util.regex.Pattern;

/** Rules of LANGUAGE.md that can be read from the source, or seen from the class; each part names its rule. */
public final class LanguageTest {
    private static final Check C = new Check("LanguageTest");
    private static final Path SOURCE = Path.of("src/main/java/GhostTrain.java");
    private static final int MOST_CLASSES = 12, MOST_FIELDS = 20, MOST_LINES = 60, MOST_PARAMETERS = 7, DEEPEST = 8;

    /** What the class needs of the library; more may be added here as far as rule 4 lists it. */
    private static final Set<String> LIBRARY = Set.of("System.arraycopy", "Arrays.fill", "Integer.bitCount", "Math.min",
        "Math.max");

    /** The only method that may call itself, with its depth as an argument. */
    private static final Set<String> RECURSIVE = Set.of("give");

    private static String text;
    private static String code;
    private static final Map<String, String> BODIES = new TreeMap<>();

    public static void main(String[] args) throws IOException {
        text = Files.readString(SOURCE);
        code = text.replaceAll("(?s)/\\*.*?\\*/", "").replaceAll("//[^\n]*", "");
        List<Class<?>> classes = new ArrayList<>(List.of(GhostTrain.class.getDeclaredClasses()));
        rule1And2(classes);
        classes.add(GhostTrain.class);
        rule1Names(classes);
        rule5And11(classes);
        readBodies();
        rule3To7();
        rule4Library();
        rule8And11Calls();
        rule11Lines();
        rule12NoCallMakesObjects();
        C.end();
    }

    private static void dueSo(String what, boolean so) {
        C.due(what, so ? 1 : 0, 1);
    }

    private static void rule1And2(List<Class<?>> classes) {
        C.begin("rules 1 and 2");
        for (Class<?> c : classes) {
            dueSo(c + " is static", Modifier.isStatic(c.getModifiers()));
            C.due(c + " is not public", c.getModifiers() & (Modifier.PUBLIC | Modifier.PROTECTED), 0);
            C.due(c + " has classes inside", c.getDeclaredClasses().length, 0);
        }
    }

    private static void rule1Names(List<Class<?>> classes) {
        C.begin("rule 1");
        Set<String> names = new HashSet<>();
        for (Method m : GhostTrain.class.getDeclaredMethods()) {
            if (Modifier.isPublic(m.getModifiers())) {
                names.add(m.getName());
            }
        }
        for (Class<?> c : classes) {
            for (Method m : c.getDeclaredMethods()) {
                boolean hidden = !Modifier.isPublic(m.getModifiers());
                dueSo(m + " has no public one's name", !hidden || !names.contains(m.getName()));
            }
        }
    }

    private static void rule5And11(List<Class<?>> classes) {
        C.begin("rules 5 and 11");
        dueSo("at most twelve classes", classes.size() <= MOST_CLASSES);
        for (Class<?> c : classes) {
            int fields = 0;
            for (Field f : c.getDeclaredFields()) {
                boolean isStatic = Modifier.isStatic(f.getModifiers());
                fields += isStatic ? 0 : 1;
                dueSo(f + " is final where it is static", !isStatic || Modifier.isFinal(f.getModifiers()));
            }
            dueSo(c + " has at most twenty fields", fields <= MOST_FIELDS);
            for (Method m : c.getDeclaredMethods()) {
                dueSo(m + " takes few", m.getParameterCount() <= MOST_PARAMETERS);
            }
            for (Constructor<?> one : c.getDeclaredConstructors()) {
                dueSo(one + " takes few", one.getParameterCount() <= MOST_PARAMETERS);
            }
        }
        dueSo("no static initialiser block", !code.matches("(?s).*\\bstatic\\s*\\{.*"));
    }

    private static void rule3To7() {
        C.begin("rules 3 to 7");
        String[] banned = {"\\bthrow\\b", "\\btry\\b", "\\bcatch\\b", "\\bsynchronized\\b", "\\bassert\\b", "->", "::",
            "\\bdouble\\b", "\\bfloat\\b", "\\bpackage\\b", "@", "\\bextends\\b", "\\bnull\\b", "\"", "\\bString\\b",
            "\\bwhile \\(true\\)", "for \\([^;)]*; *;"};
        for (String one : banned) {
            dueSo("no " + one + " in the source", !Pattern.compile(one).matcher(code).find());
        }
        dueSo("signs of the source are below 128", text.chars().allMatch(s -> s < 128));
    }

    private static void rule4Library() {
        C.begin("rule 4");
        Matcher imports = Pattern.compile("import ([^;]*);").matcher(code);
        while (imports.find()) {
            C.dueSame("an import", imports.group(1), "java.util.Arrays");
        }
        Set<String> own = new HashSet<>();
        for (Class<?> c : GhostTrain.class.getDeclaredClasses()) {
            own.add(c.getSimpleName());
        }
        Matcher calls = Pattern.compile("\\b([A-Z]\\w*)\\.(\\w+)\\(").matcher(code);
        while (calls.find()) {
            String call = calls.group(1) + "." + calls.group(2);
            dueSo(call + " is of the library that is listed", own.contains(calls.group(1)) || LIBRARY.contains(call));
        }
    }

    /** Methods by their names: the class has no two of one name, so that a name tells which one is called. */
    private static void readBodies() {
        C.begin("the source");
        Pattern heads = Pattern.compile("(?m)^( {4}| {8})(?:public|private) [^=;{]*?(\\w+)\\([^)]*\\) \\{$");
        Matcher m = heads.matcher(code);
        while (m.find()) {
            int end = code.indexOf("\n" + m.group(1) + "}\n", m.end());
            String before = BODIES.put(m.group(2), code.substring(m.end(), end));
            dueSo("one method is called " + m.group(2), before == null);
        }
        Set<String> methods = new HashSet<>();
        List<Class<?>> classes = new ArrayList<>(Arrays.asList(GhostTrain.class.getDeclaredClasses()));
        classes.add(GhostTrain.class);
        for (Class<?> c : classes) {
            for (Method one : c.getDeclaredMethods()) {
                methods.add(one.getName());
            }
        }
        for (String one : methods) {
            dueSo(one + " was found in the source", BODIES.containsKey(one));
        }
    }

    private static void rule8And11Calls() {
        C.begin("rules 8 and 11");
        for (String one : BODIES.keySet()) {
            int deep = callsFrom(one, List.of());
            dueSo(one + " goes " + deep + " deep, at most eight", deep <= DEEPEST);
        }
    }

    /** How many calls stand open at most in a call of this method, itself and the library's among them. */
    private static int callsFrom(String name, List<String> open) {
        List<String> nowOpen = new ArrayList<>(open);
        nowOpen.add(name);
        int deepest = 0;
        Matcher m = Pattern.compile("(?:\\b([A-Z]\\w*)\\.)?\\b(\\w+)\\(").matcher(BODIES.get(name));
        while (m.find()) {
            String called = m.group(2);
            if (called.equals(name)) {
                dueSo(name + " may call itself", RECURSIVE.contains(name));
            } else if (nowOpen.contains(called)) {
                dueSo(called + " calls itself through " + name, false);
            } else if (BODIES.containsKey(called)) {
                deepest = Math.max(deepest, callsFrom(called, nowOpen));
            } else if (m.group(1) != null) {
                deepest = Math.max(deepest, 1);
            }
        }
        return 1 + deepest;
    }

    private static void rule11Lines() {
        C.begin("rule 11");
        for (Map.Entry<String, String> one : BODIES.entrySet()) {
            long lines = one.getValue().lines().count();
            dueSo(one.getKey() + " has at most sixty lines", lines <= MOST_LINES);
        }
    }

    private static void rule12NoCallMakesObjects() {
        C.begin("rule 12");
        Set<String> constructors = new HashSet<>(List.of("GhostTrain"));
        for (Class<?> c : GhostTrain.class.getDeclaredClasses()) {
            constructors.add(c.getSimpleName());
        }
        for (Map.Entry<String, String> one : BODIES.entrySet()) {
            boolean makes = Pattern.compile("\\bnew\\b|\\.clone\\(|copyOf").matcher(one.getValue()).find();
            dueSo(one.getKey() + " makes no object", !makes || constructors.contains(one.getKey()));
        }
    }
}
