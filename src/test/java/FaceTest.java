import java.lang.reflect.Constructor;
import java.lang.reflect.Field;
import java.lang.reflect.InvocationTargetException;
import java.lang.reflect.Method;
import java.lang.reflect.Modifier;
import java.util.HashSet;
import java.util.Set;

/** The document's face and nothing beside it; no call throws, and the same calls give the same answers. */
public final class FaceTest {
    private static final String[] FACE = {
        "table(int,int,int,int)", "bath(int,int,int)", "lamp(int,int)", "rule(int,int)", "bathTold(int,int)",
        "feet(int,int)", "exposure(int,int,int,int)", "tone(int,int,int,int,int,int)", "write(int,long)", "clear()",
        "fault()", "load()", "light(int,int)", "shotOf(int)", "soon(int)", "list(int)", "shot(int,int,int,int)",
        "grade(int,int,int,int)", "frameTone(int,int,int,int)", "strip(int,int,int)", "noStrips()", "drift(int)",
        "reel(int,int,int)", "lose(int,boolean)", "from(int,int,int)", "edge(int)", "missing()", "where(int,int)",
        "splice(int)", "run(int)", "mend()", "order(int,int,int,int)", "drop(int)", "plan(int)", "keep()", "back()",
        "count(int)"};
    private static final int[] EDGES = {Integer.MIN_VALUE, -1001, -2, -1, 0, 1, 2, 3, 8, 10, 16, 30, 50, 100, 1000,
        100000, Integer.MAX_VALUE};
    private static final String SIGNS = "ssffeecc00112345,,,,,;;;;;x";

    private static long seed = 38;

    public static void main(String[] args) throws IllegalAccessException {
        face();
        constants();
        inside();
        Method[] calls = publicMethods();
        for (int run = 0; run < 400; run++) {
            anyCalls(calls, run);
        }
        Check.end();
    }

    private static String told(Method m) {
        StringBuilder text = new StringBuilder(m.getName()).append('(');
        for (Class<?> type : m.getParameterTypes()) {
            text.append(text.charAt(text.length() - 1) == '(' ? "" : ",").append(type.getName());
        }
        return text.append(')').toString();
    }

    private static void face() {
        Set<String> due = new HashSet<>(Set.of(FACE));
        Set<String> names = new HashSet<>();
        for (Method m : PrinterLights.class.getDeclaredMethods()) {
            if (Modifier.isPublic(m.getModifiers())) {
                names.add(m.getName());
                Check.due("told: " + told(m), due.remove(told(m)) ? 1 : 0, 1);
                Check.due("answers an int: " + told(m), m.getReturnType() == int.class ? 1 : 0, 1);
            }
        }
        Check.due("not there: " + due, due.size(), 0);
        for (Method m : PrinterLights.class.getDeclaredMethods()) {
            if (!Modifier.isPublic(m.getModifiers())) {
                Check.due("private: " + told(m), Modifier.isPrivate(m.getModifiers()) ? 1 : 0, 1);
                Check.due("bears another name: " + told(m), names.contains(m.getName()) ? 1 : 0, 0);
            }
        }
        Check.due("final", Modifier.isFinal(PrinterLights.class.getModifiers()) ? 1 : 0, 1);
        Constructor<?>[] made = PrinterLights.class.getDeclaredConstructors();
        Check.due("one constructor", made.length, 1);
        Check.due("public, of nothing", Modifier.isPublic(made[0].getModifiers()) ? made[0].getParameterCount() : -1, 0);
    }

    private static void constants() {
        Check.due("BAD", PrinterLights.BAD, -1);
        Check.due("NO", PrinterLights.NO, -2);
        Check.due("FULL", PrinterLights.FULL, -3);
        Check.due("NONE", PrinterLights.NONE, -4);
        int seen = 0;
        for (Field f : PrinterLights.class.getDeclaredFields()) {
            if (Modifier.isPrivate(f.getModifiers())) {
                continue;
            }
            seen++;
            Check.due("a constant: " + f, Set.of("BAD", "NO", "FULL", "NONE").contains(f.getName()) ? 1 : 0, 1);
        }
        Check.due("constants", seen, 4);
    }

    /** LANGUAGE.md, rules 1, 2, 5 and 11, as far as they can be seen from outside. */
    private static void inside() {
        Class<?>[] classes = PrinterLights.class.getDeclaredClasses();
        Check.due("some twelve classes", classes.length <= 12 ? 1 : 0, 1);
        for (Class<?> c : classes) {
            Check.due("static: " + c, Modifier.isStatic(c.getModifiers()) ? 1 : 0, 1);
            for (Method m : c.getDeclaredMethods()) {
                Check.due("seven parameters: " + m, m.getParameterCount() <= 7 ? 1 : 0, 1);
            }
            for (Field f : c.getDeclaredFields()) {
                boolean isFinal = !Modifier.isStatic(f.getModifiers()) || Modifier.isFinal(f.getModifiers());
                Check.due("no static state: " + f, isFinal ? 1 : 0, 1);
            }
        }
    }

    private static Method[] publicMethods() {
        Method[] found = new Method[FACE.length];
        int n = 0;
        for (String told : FACE) {
            for (Method m : PrinterLights.class.getDeclaredMethods()) {
                if (told(m).equals(told)) {
                    found[n] = m;
                    n++;
                }
            }
        }
        return found;
    }

    private static int any(int n) {
        seed = seed * 6364136223846793005L + 1442695040888963407L;
        return (int) ((seed >>> 33) % n);
    }

    private static void anyCalls(Method[] calls, int run) throws IllegalAccessException {
        PrinterLights x = new PrinterLights();
        PrinterLights again = new PrinterLights();
        if (run % 2 == 0) {
            String text = "s0,9,20,20,20;f4,30,1,20;s1,5,22,50,20;e1,2,3;e3,2,40;s2,16,9,9,9;f16,50,50,50;";
            Check.load(x, run % 4 == 0 ? text : Check.sixteenShots(3));
            Check.load(again, run % 4 == 0 ? text : Check.sixteenShots(3));
        }
        for (int i = 0; i < 460; i++) {
            Method m = calls[any(calls.length)];
            Object[] args = anyArguments(m);
            long answer = answerOf(x, m, args);
            Check.due("the same answer of " + told(m), answerOf(again, m, args), answer);
        }
    }

    private static Object[] anyArguments(Method m) {
        Object[] args = new Object[m.getParameterCount()];
        for (int i = 0; i < args.length; i++) {
            Class<?> type = m.getParameterTypes()[i];
            if (type == boolean.class) {
                args[i] = any(2) == 0;
            } else if (type == long.class) {
                args[i] = anySigns();
            } else {
                args[i] = any(3) == 0 ? EDGES[any(EDGES.length)] : any(4);
            }
        }
        return args;
    }

    private static long anySigns() {
        long v = 0;
        for (int i = 0; i < 8; i++) {
            v = v << 8 | SIGNS.charAt(any(SIGNS.length()));
        }
        return v;
    }

    private static long answerOf(PrinterLights x, Method m, Object[] args) throws IllegalAccessException {
        try {
            return (Integer) m.invoke(x, args);
        } catch (InvocationTargetException e) {
            Check.due(told(m) + " threw " + e.getCause(), 1, 0);
            return 0;
        }
    }
}
