import java.util.function.IntUnaryOperator;

/** What all tests of the project share: compares answers, and ends with exit code 1 if one was wrong. */
final class Check {
    private static int asked = 0;
    private static int wrong = 0;
    private static String about = "";
    private static int askedBefore = 0;

    private Check() {
    }

    /** What the answers that follow are about; there must be one at least. */
    static void begin(String what) {
        isAsked();
        about = what;
        askedBefore = asked;
    }

    private static void isAsked() {
        if (!about.isEmpty() && asked == askedBefore) {
            due("nothing was asked", 1, 0);
        }
    }

    static void due(String call, long got, long want) {
        asked++;
        if (got != want) {
            wrong++;
            System.out.println((about.isEmpty() ? "" : about + ": ") + call + " answered " + got + ", due is " + want);
        }
    }

    /** The numbers from low to high are taken; those next to them and the farthest of all are refused. */
    static void range(String call, int low, int high, int refusal, IntUnaryOperator answer) {
        int[] refused = {Integer.MIN_VALUE, low - 1, high + 1, Integer.MAX_VALUE};
        for (int v : refused) {
            due(call + " by " + v, answer.applyAsInt(v), refusal);
        }
        for (int v = low; v <= high; v += Math.max(1, (high - low) / 64)) {
            isTaken(call + " by " + v, answer.applyAsInt(v));
        }
        isTaken(call + " by " + high, answer.applyAsInt(high));
    }

    private static void isTaken(String call, int answer) {
        boolean isRefusal = answer == PrinterLights.BAD || answer == PrinterLights.NO || answer == PrinterLights.FULL
            || answer == -100 || answer == -1000;
        due(call + " (" + answer + "), is it refused?", isRefusal ? 1 : 0, 0);
    }

    /** Puts a text behind THE TEXT, eight bytes at once. */
    static void write(PrinterLights x, String text) {
        for (int at = 0; at < text.length(); at += 8) {
            int n = Math.min(8, text.length() - at);
            long v = 0;
            for (int i = 0; i < n; i++) {
                v = v << 8 | text.charAt(at + i);
            }
            x.write(n, v);
        }
    }

    static int load(PrinterLights x, String text) {
        x.clear();
        write(x, text);
        return x.load();
    }

    /** A new object with THE LIST of a text. */
    static PrinterLights loaded(String text) {
        PrinterLights x = new PrinterLights();
        load(x, text);
        return x;
    }

    /** A LIST of 16 SHOTS, which is as many as there may be, of some frames each. */
    static String sixteenShots(int frames) {
        return shots(16, frames);
    }

    /** A LIST of some SHOTS of some frames each, all of LIGHT 1. */
    static String shots(int shots, int frames) {
        StringBuilder text = new StringBuilder();
        for (int shot = 0; shot < shots; shot++) {
            text.append('s').append(shot).append(',').append(frames).append(",1,1,1;");
        }
        return text.toString();
    }

    static int fault(String text) {
        PrinterLights x = new PrinterLights();
        write(x, text);
        return x.fault();
    }

    /** A text has no FAULT. */
    static void sound(String text) {
        due(text, fault(text), PrinterLights.NONE);
    }

    /** The ITEM behind | is the first that is not so. */
    static void faulty(String text) {
        due(text, fault(text.replace("|", "")), text.indexOf('|'));
    }

    static void end() {
        isAsked();
        System.out.println(asked + " answers, " + wrong + " of them wrong");
        if (wrong != 0 || asked == 0) {
            System.exit(1);
        }
    }
}
