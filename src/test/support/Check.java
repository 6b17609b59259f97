/** What all tests of the project share: compares answers, and ends with exit code 1 if one was wrong. */
final class Check {
    private static int asked = 0;
    private static int wrong = 0;

    private Check() {
    }

    static void due(String call, long got, long want) {
        asked++;
        if (got != want) {
            wrong++;
            System.out.println(call + " answered " + got + ", due is " + want);
        }
    }

    /** Puts a text behind THE TEXT, eight bytes at once. */
    static void write(PrinterLights x, String text) {
        for (int at = 0; at < text.length(); at += 8) {
            int n = Math.min(8, text.length() - at);
            long v = 0;
            for (int i = 0; i < n; i++) {
                v = v << 8 | text.charAt(at + i);
            }
            x.write(n, v);
        }
    }

    static int load(PrinterLights x, String text) {
        x.clear();
        write(x, text);
        return x.load();
    }

    /** A LIST of 16 SHOTS, which is as many as there may be, of some frames each. */
    static String sixteenShots(int frames) {
        StringBuilder text = new StringBuilder();
        for (int shot = 0; shot < 16; shot++) {
            text.append('s').append(shot).append(',').append(frames).append(",1,1,1;");
        }
        return text.toString();
    }

    static int fault(String text) {
        PrinterLights x = new PrinterLights();
        write(x, text);
        return x.fault();
    }

    static void end() {
        System.out.println(asked + " answers, " + wrong + " of them wrong");
        if (wrong != 0 || asked == 0) {
            System.exit(1);
        }
    }
}
