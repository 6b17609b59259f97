/** Promises 21 to 23. */
public final class StripsTest {
    public static void main(String[] args) {
        strip();
        noStrips();
        drift();
        driftOfTheBath();
        doubt();
        Check.end();
    }

    private static void strip() {
        PrinterLights x = new PrinterLights();
        Check.due("21: first", x.strip(0, 0, -10), 1);
        Check.due("21: second", x.strip(99, 2, 10), 2);
        Check.due("21: a GAP", x.strip(0, 0, 100), 3);
        int[][] bad = {{-1, 0, 0}, {100, 0, 0}, {0, -1, 0}, {0, 3, 0}, {0, 0, -11}, {0, 0, 11}, {0, 0, 99}, {0, 0, 101}};
        for (int[] b : bad) {
            Check.due("21: " + b[0] + " " + b[1] + " " + b[2], x.strip(b[0], b[1], b[2]), PrinterLights.BAD);
        }
        for (int i = 4; i <= 20; i++) {
            Check.due("21: more", x.strip(i, 1, 0), i);
        }
        Check.due("21: FULL", x.strip(0, 0, 0), PrinterLights.FULL);
        Check.due("21: a GAP, FULL", x.strip(0, 0, 100), PrinterLights.FULL);
        Check.due("21: BAD ahead of FULL", x.strip(0, 3, 0), PrinterLights.BAD);
        Check.due("21: how many", x.count(1), 20);
    }

    private static void noStrips() {
        PrinterLights x = new PrinterLights();
        Check.due("22: none", x.noStrips(), 0);
        x.strip(1, 1, 1);
        x.strip(1, 1, 1);
        Check.due("22: two", x.noStrips(), 2);
        Check.due("22: then none", x.count(1), 0);
        Check.due("22: all DRIFTS EXPLAIN", x.drift(-1), 2001);
        Check.due("22: first again", x.strip(1, 1, 1), 1);
    }

    private static void drift() {
        PrinterLights x = new PrinterLights();
        Check.due("23: without STRIPS", x.drift(-1), 2001);
        Check.due("23: by numbers", x.drift(0), 0);
        Check.due("23: by numbers", x.drift(1234), 1234);
        Check.due("23: by numbers", x.drift(2000), 2000);
        Check.due("23: NONE", x.drift(2001), PrinterLights.NONE);
        Check.due("23: NONE", x.drift(Integer.MAX_VALUE), PrinterLights.NONE);
        Check.due("23: BAD", x.drift(-2), PrinterLights.BAD);
        x.strip(0, 0, 100);
        Check.due("23: a GAP is not read", x.drift(-1), 2001);
        x.strip(40, 1, 0);
        // none; LAMPS 0, 2 any; LAMP 1 and THE BATH from 41 to 99 on
        Check.due("23: one that is not off", x.drift(-1), 1 + 1000 + 59 * 5 + 59 * 5);
        x.strip(50, 1, -5);
        Check.due("23: LAMP 1 and THE BATH", x.drift(-1), 10 + 10);
        Check.due("23: from 41 on", x.drift(0), 1 + 5 * (3 * 41 + 1) + 4);
        Check.due("23: from 50 on", x.drift(9), 1 + 5 * (3 * 50 + 1) + 4);
        Check.due("23: THE BATH", x.drift(10), 1501 + 5 * 41 + 4);
        x.strip(50, 0, 0);
        Check.due("23: not THE BATH from 50 on", x.drift(-1), 10);
        x.strip(51, 2, 1);
        Check.due("23: nothing EXPLAINS", x.drift(-1), 0);
        Check.due("23: none of none", x.drift(0), PrinterLights.NONE);
        PrinterLights y = new PrinterLights();
        y.strip(0, 2, -6);
        Check.due("23: too far off", y.drift(-1), 0);
    }

    private static void driftOfTheBath() {
        PrinterLights x = new PrinterLights();
        x.strip(99, 0, -1);
        x.strip(99, 2, -1);
        Check.due("23: THE BATH alone", x.drift(-1), 100);
        Check.due("23: from 0 on", x.drift(0), 1501);
        Check.due("23: from 99 on", x.drift(99), 1501 + 5 * 99);
        x.strip(98, 1, 0);
        Check.due("23: from 99 on alone", x.drift(-1), 1);
        Check.due("23: from 99 on alone", x.drift(0), 1501 + 5 * 99);
        PrinterLights y = new PrinterLights();
        y.strip(0, 1, -3);
        Check.due("23: from 0 on", y.drift(-1), 2);
        Check.due("23: from 0 on", y.drift(0), 1 + 5 + 2);
        Check.due("23: THE BATH", y.drift(1), 1503);
    }

    private static void doubt() {
        PrinterLights x = new PrinterLights();
        x.strip(0, 0, -1);
        Check.due("23: DOUBT 0", x.drift(-1), 2);
        x.rule(2, 1);
        // none; LAMP 0 from 0 on by 1, 2, later on by any; LAMPS 1, 2 by any; THE BATH as LAMP 0
        Check.due("23: DOUBT 1", x.drift(-1), 1 + (2 + 495) + 1000 + (2 + 495));
        Check.due("23: none EXPLAINS", x.drift(0), 0);
        Check.due("23: LAMP 0 by 2", x.drift(2), 2);
        Check.due("23: LAMP 1 by 1", x.drift(3), 6);
        x.rule(2, 3);
        x.strip(99, 1, -8);
        Check.due("23: DOUBT 3, by 5 from any hour on", x.drift(-1), 100 + 99);
        x.noStrips();
        x.strip(99, 1, 3);
        Check.due("23: upwards within DOUBT: none, LAMPS 0, 2", x.drift(-1), 1001);
    }
}
