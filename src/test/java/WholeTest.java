import java.io.IOException;
import java.lang.reflect.InvocationTargetException;
import java.lang.reflect.Method;
import java.nio.file.Files;
import java.nio.file.Path;
import java.util.ArrayList;
import java.util.Arrays;
import java.util.List;
import java.util.Map;
import java.util.Set;
import java.util.TreeMap;
import java.util.TreeSet;
import java.util.regex.Matcher;
import java.util.regex.Pattern;

/**
 * Promises 1 to 38 together: any calls by any numbers on one object, each answer beside that of SlowLights. Each
 * promise must have been answered in every way that the document names for it (BAD, NO, FULL, NONE, a number).
 */
public final class WholeTest {
    /** What an object answers behind its 512th call is free. */
    private static final int RUNS = 400, CALLS = 512;
    private static final int[] NO_NUMBERS = {};

    /** Of each call: the lowest and the highest of each of its numbers. */
    private static final Map<String, int[]> NUMBERS = new TreeMap<>(Map.ofEntries(
        Map.entry("table", new int[] {0, 2, 0, 2, 0, 8, 0, 255}), Map.entry("bath", new int[] {0, 1, 0, 1, 0, 1000}),
        Map.entry("lamp", new int[] {0, 2, 0, 20}), Map.entry("rule", new int[] {0, 3, 0, 60}),
        Map.entry("bathTold", new int[] {0, 1, 0, 3}), Map.entry("feet", new int[] {0, 1, 1, 10000}),
        Map.entry("exposure", new int[] {0, 2, 1, 50, 0, 60, 0, 1}),
        Map.entry("tone", new int[] {0, 2, 0, 2, 1, 50, 0, 60, 0, 1, 1, 5}), Map.entry("write", new int[] {1, 8, 0, 255}),
        Map.entry("clear", NO_NUMBERS), Map.entry("fault", NO_NUMBERS), Map.entry("load", NO_NUMBERS),
        Map.entry("light", new int[] {0, 60, 0, 2}), Map.entry("shotOf", new int[] {0, 60}),
        Map.entry("soon", new int[] {-1, 3}), Map.entry("list", new int[] {0, 4}),
        Map.entry("shot", new int[] {0, 15, 0, 2, 0, 1, -1, 255}), Map.entry("grade", new int[] {0, 2, 0, 1, 0, 2, -1, 15}),
        Map.entry("frameTone", new int[] {0, 2, 0, 1, 0, 2, 0, 60}), Map.entry("strip", new int[] {0, 99, 0, 2, -10, 10}),
        Map.entry("noStrips", NO_NUMBERS), Map.entry("drift", new int[] {-1, 20}),
        Map.entry("reel", new int[] {0, 7, 0, 100000, 1, 2000}), Map.entry("lose", new int[] {0, 7, 0, 1}),
        Map.entry("from", new int[] {0, 15, -1, 7, 0, 100000}), Map.entry("edge", new int[] {0, 60}),
        Map.entry("missing", NO_NUMBERS), Map.entry("where", new int[] {0, 7, 0, 100000}),
        Map.entry("splice", new int[] {0, 14}), Map.entry("run", new int[] {0, 1}), Map.entry("mend", NO_NUMBERS),
        Map.entry("order", new int[] {1, 40, 0, 400, 1, 20, 0, 5}), Map.entry("drop", new int[] {0, 7}),
        Map.entry("plan", new int[] {0, 27}), Map.entry("keep", NO_NUMBERS), Map.entry("back", NO_NUMBERS),
        Map.entry("count", new int[] {0, 6})));

    /** Narrower bounds, by which calls meet one another: a few SHOTS, the first EDGES, near hours. */
    private static final Map<String, int[]> OFTEN = Map.of("feet", new int[] {0, 1, 1, 300},
        "shot", new int[] {0, 4, 0, 2, 0, 1, -1, 60}, "grade", new int[] {0, 2, 0, 1, 0, 2, -1, 4},
        "reel", new int[] {0, 7, 0, 40, 1, 90}, "from", new int[] {0, 4, -1, 7, 0, 60}, "where", new int[] {0, 7, 0, 80},
        "splice", new int[] {0, 5}, "order", new int[] {1, 40, 0, 60, 1, 20, 0, 5});

    private static final Map<String, Set<String>> SEEN = new TreeMap<>();
    private static long seed = 2038;

    private final PrinterLights x = new PrinterLights();
    private final SlowLights slow = new SlowLights();
    private final List<String> told = new ArrayList<>();
    private boolean isRight = true;

    public static void main(String[] args) throws ReflectiveOperationException, IOException {
        for (int run = 0; run < RUNS; run++) {
            new WholeTest().go();
        }
        everyWay();
        Check.end();
    }

    private static int any(int low, int high) {
        seed = seed * 6364136223846793005L + 1442695040888963407L;
        return (int) (low + (seed >>> 33) % ((long) high - low + 1));
    }

    private static boolean once(int in) {
        return any(1, in) == 1;
    }

    /** In every second run what takes away is rare, so that rows become full. */
    private void go() throws ReflectiveOperationException {
        String[] names = NUMBERS.keySet().toArray(new String[0]);
        int rare = once(2) ? 2 : 12;
        while (told.size() < CALLS && isRight) {
            if (once(25)) {
                newText();
            } else if (once(40)) {
                burst(once(2) ? "strip" : "order");
            } else if (once(12)) {
                splicesGone();
            } else if (once(12)) {
                aimNear();
            } else if (once(40)) {
                wornOut();
            } else {
                String name = names[any(0, names.length - 1)];
                boolean isRare = Set.of("clear", "noStrips", "drop", "load").contains(name);
                if (!isRare || once(rare)) {
                    ask(name, anyNumbers(name));
                }
            }
        }
    }

    private void burst(String name) throws ReflectiveOperationException {
        for (int left = any(1, 22); left > 0; left--) {
            ask(name, anyNumbers(name));
        }
    }

    private static long[] anyNumbers(String name) {
        int[] bounds = once(4) ? NUMBERS.get(name) : OFTEN.getOrDefault(name, NUMBERS.get(name));
        long[] numbers = new long[bounds.length / 2];
        for (int i = 0; i < numbers.length; i++) {
            numbers[i] = anyNumber(bounds[2 * i], bounds[2 * i + 1]);
        }
        if (!once(4)) {
            fit(name, numbers);
        }
        return numbers;
    }

    /** Numbers whose bounds hang on another number, or which would be refused or answered alike too often. */
    private static void fit(String name, long[] numbers) {
        switch (name) {
            case "table" -> numbers[3] = new int[] {0, 4, 20, 60, 110, 160, 205, 235, 250}[any(0, 8)] + any(0, 5);
            case "bath" -> numbers[2] = numbers[1] == 1 ? edgeOrAny(1, 50) : any(600, 1000);
            case "rule" -> {
                int what = any(0, 3);
                numbers[0] = what;
                numbers[1] = edgeOrAny(new int[] {1, 0, 0, 1}[what], new int[] {48, 60, 3, 20}[what]);
            }
            case "strip" -> numbers[2] = once(5) ? 100 : any(-2, 1);
            case "reel" -> numbers[1] = once(4) ? 100000 - any(0, 60) : numbers[1];
            case "write" -> numbers[1] = once(2) ? seed : 0x63393B3939393BL + numbers[1];
            default -> {
            }
        }
    }

    private static int edgeOrAny(int low, int high) {
        return once(3) ? new int[] {low - 1, low, high, high + 1}[any(0, 3)] : any(low, high);
    }

    private static int anyNumber(int low, int high) {
        if (once(40)) {
            return new int[] {low - 1, high + 1, Integer.MIN_VALUE, Integer.MAX_VALUE}[any(0, 3)];
        }
        if (once(8)) {
            return once(2) ? low : high;
        }
        return any(low, high);
    }

    private void newText() throws ReflectiveOperationException {
        ask("clear");
        int shots = once(20) ? 17 : any(1, 5);
        for (int shot = 0; shot < shots && isRight; shot++) {
            int frames = once(15) ? anyNumber(1, 400) : any(1, 20);
            write("s" + shot + "," + frames + lights());
            if (once(3)) {
                write("f" + anyNumber(1, Math.max(1, frames)) + lights());
            }
            for (int effects = once(9) ? 5 : any(0, 2); effects > 0; effects--) {
                int from = any(0, Math.max(0, frames - 1));
                write("e" + from + "," + anyNumber(1, Math.max(1, frames - from)) + "," + anyNumber(1, once(2) ? 5 : 40));
            }
            if (once(9)) {
                write("f" + any(1, 3) + lights());
            }
            if (once(9)) {
                write("c" + anyNumber(1, 999));
            }
        }
        ask("fault");
        ask("load");
    }

    private static String lights() {
        int most = once(2) ? 50 : 20;
        return once(30) ? "," + anyNumber(1, 50) + "," + anyNumber(1, 50) + "," + anyNumber(1, 50)
            : "," + any(1, most) + "," + any(1, most) + "," + any(1, most);
    }

    private void write(String item) throws ReflectiveOperationException {
        String text = once(60) ? item : once(60) ? mangled(item + ";") : item + ";";
        for (int at = 0; at < text.length() && isRight; at += 8) {
            int n = Math.min(8, text.length() - at);
            long v = 0;
            for (int i = 0; i < n; i++) {
                v = v << 8 | text.charAt(at + i);
            }
            ask("write", n, v);
        }
    }

    /** A sign is taken out, put in, or is another one. */
    private static String mangled(String item) {
        int at = any(0, item.length() - 1);
        String signs = "sfec0123456789,;x";
        int sign = any(0, signs.length() - 1);
        String put = once(3) ? "" : signs.substring(sign, sign + 1);
        return item.substring(0, at) + put + item.substring(once(2) ? at : at + 1);
    }

    /** Runs till splices OPEN, and what they are SPLICED to. */
    private void wornOut() throws ReflectiveOperationException {
        ask("rule", 3, any(14, 20));
        for (int run = any(3, 8); run > 0; run--) {
            ask("run", any(0, 1));
        }
        ask("count", 4);
        ask("mend");
        for (int k = 0; k < 5; k++) {
            ask("splice", k);
        }
    }

    /** SHOTS one just behind the other from one REEL; sought at random these are too rare. */
    private void splicesGone() throws ReflectiveOperationException {
        int k = any(0, 3);
        int reel = any(0, 7);
        int edge = any(0, 30);
        int frames = 0;
        for (int frame = 0; frame < 60; frame++) {
            frames += slow.shotOf(frame) == k ? 1 : 0;
        }
        ask("reel", reel, any(0, 10), any(20, 90));
        ask("from", k, reel, edge);
        ask("from", k + 1, once(9) ? any(0, 7) : reel, edge + frames + (once(5) ? any(-1, 1) : 0));
        ask("splice", k);
        ask("run", any(0, 1));
        ask("missing");
        ask("where", reel, edge + any(0, 20));
    }

    /** An AIM that some POINTS come to; sought at random GRADED would be NONE too often. */
    private void aimNear() throws ReflectiveOperationException {
        int stock = any(0, 2);
        int bath = any(0, 1);
        int colour = any(0, 2);
        for (int shot = 0; shot < 6; shot++) {
            int density = any(5, 45);
            int tone = slow.tone(stock, colour, any(1, 50), density, bath, 1);
            ask("shot", shot, colour, 0, density);
            ask("shot", shot, colour, 1, once(4) ? -1 : Math.min(255, tone));
        }
        ask("rule", 1, any(0, 8));
        for (int shot = -1; shot < 6; shot++) {
            ask("grade", stock, bath, colour, shot);
        }
    }

    private void ask(String name, long... numbers) throws ReflectiveOperationException {
        if (!isRight || told.size() == CALLS) {
            return;
        }
        String call = name + Arrays.toString(numbers).replace('[', '(').replace(']', ')');
        int got = answer(x, name, numbers);
        int due = answer(slow, name, numbers);
        told.add(call + " -> " + due);
        Check.due(call, got, due);
        if (got != due) {
            isRight = false;
            System.out.println("  behind " + told.subList(Math.max(0, told.size() - 30), told.size() - 1));
        }
        SEEN.computeIfAbsent(name, n -> new TreeSet<>()).add(kind(name, due));
    }

    private static String kind(String name, int answer) {
        if (name.equals("bathTold") || name.equals("exposure") || name.equals("shot")) {
            return answer == (name.equals("shot") ? -100 : -1000) ? "BAD" : "a number";
        }
        return answer >= 0 ? "a number" : new String[] {"BAD", "NO", "FULL", "NONE"}[-1 - answer];
    }

    private static int answer(Object of, String name, long[] numbers)
            throws IllegalAccessException, InvocationTargetException {
        for (Method m : of.getClass().getDeclaredMethods()) {
            if (m.getName().equals(name)) {
                Object[] args = new Object[numbers.length];
                for (int i = 0; i < args.length; i++) {
                    Class<?> type = m.getParameterTypes()[i];
                    args[i] = type == boolean.class ? (Object) (numbers[i] == 1) : type == long.class
                        ? (Object) numbers[i] : (Object) (int) numbers[i];
                }
                return (Integer) m.invoke(of, args);
            }
        }
        throw new IllegalStateException("no call " + name);
    }

    /** The ways to be answered that the document names are all seen, and no others. */
    private static void everyWay() throws IOException {
        String document = Files.readString(Path.of("../shared/DOC.md"));
        Matcher m = Pattern.compile("(?m)^`int (\\w+)\\(.*?`: (.*)$").matcher(document);
        int promises = 0;
        while (m.find()) {
            Set<String> named = new TreeSet<>(Set.of("a number"));
            Matcher kinds = Pattern.compile("\\b(BAD|NO|FULL|NONE)\\b").matcher(m.group(2));
            while (kinds.find()) {
                named.add(kinds.group());
            }
            Set<String> seen = SEEN.getOrDefault(m.group(1), Set.of());
            Check.due(m.group(1) + " was answered by " + seen + ", named are " + named, seen.equals(named) ? 1 : 0, 1);
            promises++;
        }
        Check.due("promises 2 to 38", promises, 37);
    }
}
