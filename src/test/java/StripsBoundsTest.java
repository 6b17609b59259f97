/** The boundaries that the document names in part 4 of its Terms and in the promises 21 to 23, sentence by sentence. */
public final class StripsBoundsTest {
    private static final int BAD = PrinterLights.BAD, FULL = PrinterLights.FULL, NONE = PrinterLights.NONE;
    private static final int GAP = 100, ALL = 2001;

    public static void main(String[] args) {
        twentyStrips();
        hours();
        offs();
        lampDrifts();
        bathDrifts();
        doubt();
        stripGap();
        stripRefused();
        noStrips();
        driftNumbers();
        Doc.termsAreWhole(4);
        Doc.promisesAreWhole(21, 23);
        Check.end();
    }

    private static PrinterLights fresh() {
        return new PrinterLights();
    }

    private static PrinterLights with(int strips) {
        PrinterLights x = fresh();
        for (int i = 0; i < strips; i++) {
            x.strip(0, 0, GAP);
        }
        return x;
    }

    /** How many DRIFTS EXPLAIN one STRIP at HOUR 0, of COLOUR 0. */
    private static int drifts(int doubt, int off) {
        PrinterLights x = fresh();
        x.rule(2, doubt);
        x.strip(0, 0, off);
        return x.drift(-1);
    }

    // ---- Terms, part 4

    private static void twentyStrips() {
        Doc.terms(4, "STRIPS, 20 at most:");
        PrinterLights x = with(19);
        Check.due("the 20th", x.strip(99, 2, -5), 20);
        Check.due("the 21st", x.strip(99, 2, -4), FULL);
        Check.due("20", x.count(1), 20);
        Check.due("the 20th counts", x.drift(-1), 100 + 100);
        Check.due("GAPS count as STRIPS", with(20).strip(0, 0, GAP), FULL);
    }

    private static void hours() {
        Doc.terms(4, "an HOUR (0 to 99), a COLOUR,");
        Check.range("hour", 0, 99, BAD, h -> fresh().strip(h, 2, 0));
        Check.range("colour", 0, 2, BAD, c -> fresh().strip(99, c, 0));
    }

    private static void offs() {
        Doc.terms(4, "how far TONE is off in POINTS (-10 to 10), or a GAP (not read).");
        for (int off = -10; off <= 10; off++) {
            Check.due("off " + off, fresh().strip(0, 0, off), 1);
        }
        int[] refused = {-11, 11, 99, 101, -100, Integer.MIN_VALUE, Integer.MAX_VALUE};
        for (int off : refused) {
            Check.due("off " + off, fresh().strip(0, 0, off), BAD);
        }
        Check.due("a GAP is not read", drifts(0, GAP), ALL);
        Check.due("the least that is read", drifts(3, -10), 0);
        Check.due("the most that is read", drifts(3, 10), 0);
    }

    private static void lampDrifts() {
        Doc.terms(4, "A DRIFT is 0 none; 1 + 5 (3 h + c) + d - 1:"
            + " LAMP of COLOUR c SANK by d (1 to 5) from HOUR h (0 to 99) on;");
        for (int h = 0; h <= 99; h++) {
            for (int c = 0; c <= 2; c++) {
                for (int d = 1; d <= 5; d++) {
                    PrinterLights x = fresh();
                    if (h > 0) {
                        x.strip(h - 1, c, 0);
                    }
                    x.strip(h, c, -d);
                    x.strip(99, (c + 1) % 3, 0);
                    Check.due("one, LAMP " + c + " by " + d + " from " + h, x.drift(-1), 1);
                    Check.due("LAMP " + c + " by " + d + " from " + h, x.drift(0), 1 + 5 * (3 * h + c) + d - 1);
                }
            }
        }
        PrinterLights y = fresh();
        y.strip(99, 0, 0);
        y.strip(99, 1, 0);
        y.strip(99, 2, 0);
        Check.due("none, one", y.drift(-1), 1);
        Check.due("none", y.drift(0), 0);
        Check.due("by 6, -6 is too far off", drifts(0, -6), 0);
        Check.due("by 5, -5 is not", drifts(0, -5), 2);
        Check.due("up by 1", drifts(0, 1), 0);
    }

    private static void bathDrifts() {
        Doc.terms(4, "1501 + 5 h + d - 1: THE BATH sank by d (all COLOURS) from h on.");
        for (int h = 0; h <= 99; h++) {
            for (int d = 1; d <= 5; d++) {
                PrinterLights x = fresh();
                if (h > 0) {
                    x.strip(h - 1, 2, 0);
                }
                x.strip(h, 0, -d);
                x.strip(h, 1, -d);
                Check.due("one, THE BATH by " + d + " from " + h, x.drift(-1), 1);
                Check.due("THE BATH by " + d + " from " + h, x.drift(0), 1501 + 5 * h + d - 1);
            }
        }
        PrinterLights y = fresh();
        y.strip(0, 0, -1);
        y.strip(99, 1, -2);
        Check.due("not by 1 and by 2", y.drift(-1), 0);
    }

    private static void doubt() {
        Doc.terms(4, "It EXPLAINS, if each STRIP read is off by -d where it is so, else 0;"
            + " but by DOUBT (0 to 3; 0 at first) at most.");
        Check.range("DOUBT", 0, 3, BAD, v -> fresh().rule(2, v));
        Check.due("at first", fresh().rule(2, 0), 0);
        // at HOUR 0, COLOUR 0: 1001 DRIFTS do not touch it with none and LAMPS 1, 2; 990 begin later; 10 are so
        int untouched = 1 + 1000 + 990;
        for (int most = 0; most <= 3; most++) {
            for (int off = -10; off <= 10; off++) {
                int due = Math.abs(off) <= most ? untouched : 0;
                for (int d = 1; d <= 5; d++) {
                    due += Math.abs(off + d) <= most ? 2 : 0;
                }
                Check.due("DOUBT " + most + ", off " + off, drifts(most, off), due);
            }
        }
        Check.due("DOUBT 3, off -8", drifts(3, -8), 2);
        Check.due("DOUBT 3, off -9", drifts(3, -9), 0);
        Check.due("DOUBT 3, off 3", drifts(3, 3), untouched);
        Check.due("DOUBT 3, off 4", drifts(3, 4), 0);
    }

    // ---- promises 21 to 23

    private static void stripGap() {
        Doc.promise(21, "A STRIP (off = 100: a GAP): how many.");
        PrinterLights x = fresh();
        for (int i = 1; i <= 20; i++) {
            Check.due("how many " + i, x.strip(i, i % 3, i % 2 == 0 ? GAP : 0), i);
        }
        Check.due("99 is no GAP", fresh().strip(0, 0, 99), BAD);
        Check.due("101 is no GAP", fresh().strip(0, 0, 101), BAD);
    }

    private static void stripRefused() {
        Doc.promise(21, "BAD; FULL.");
        int[][] bad = {{-1, 0, 0}, {100, 0, 0}, {0, -1, 0}, {0, 3, 0}, {0, 0, -11}, {0, 0, 11}, {-1, 0, GAP},
            {0, 3, GAP}};
        for (int[] b : bad) {
            PrinterLights x = fresh();
            Check.due("BAD " + b[0] + " " + b[1] + " " + b[2], x.strip(b[0], b[1], b[2]), BAD);
            Check.due("nothing changes", x.count(1), 0);
            Check.due("BAD ahead of FULL " + b[0] + " " + b[1] + " " + b[2], with(20).strip(b[0], b[1], b[2]), BAD);
        }
        PrinterLights y = with(20);
        Check.due("FULL", y.strip(0, 0, 5), FULL);
        Check.due("nothing changes", y.drift(-1), ALL);
        y.noStrips();
        Check.due("empty again", y.strip(0, 0, 5), 1);
    }

    private static void noStrips() {
        Doc.promise(22, "No STRIPS: how many were.");
        Check.due("0", fresh().noStrips(), 0);
        Check.due("1", with(1).noStrips(), 1);
        PrinterLights x = with(19);
        x.strip(0, 0, 9);
        Check.due("none EXPLAINS", x.drift(-1), 0);
        Check.due("20", x.noStrips(), 20);
        Check.due("none then", x.count(1), 0);
        Check.due("all DRIFTS EXPLAIN", x.drift(-1), ALL);
        Check.due("0 again", x.noStrips(), 0);
    }

    private static void driftNumbers() {
        Doc.promise(23, "How many DRIFTS EXPLAIN (i = -1), the i-th by numbers. NONE; BAD.");
        PrinterLights x = fresh();
        Check.due("all", x.drift(-1), ALL);
        int[] same = {0, 1, 5, 6, 15, 16, 1500, 1501, 1505, 1506, 2000};
        for (int i : same) {
            Check.due("of all, " + i, x.drift(i), i);
        }
        Check.due("behind the last of all", x.drift(2001), NONE);
        Check.due("the farthest", x.drift(Integer.MAX_VALUE), NONE);
        Check.due("-2", x.drift(-2), BAD);
        Check.due("the farthest", x.drift(Integer.MIN_VALUE), BAD);
        x.strip(1, 2, -3);
        int[] due = {1 + 5 * 2 + 2, 1 + 5 * 5 + 2, 1501 + 2, 1501 + 5 + 2, NONE};
        Check.due("how many", x.drift(-1), 4);
        for (int i = 0; i < due.length; i++) {
            Check.due("i " + i, x.drift(i), due[i]);
        }
        x.strip(0, 0, 10);
        Check.due("none EXPLAINS", x.drift(-1), 0);
        Check.due("the first of none", x.drift(0), NONE);
        Check.due("BAD ahead of NONE", x.drift(-2), BAD);
    }
}
