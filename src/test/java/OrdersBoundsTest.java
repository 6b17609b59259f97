/** The boundaries that the document names in part 6 of its Terms and in the promises 33 to 38, sentence by sentence. */
public final class OrdersBoundsTest {
    private static final int BAD = PrinterLights.BAD, NO = PrinterLights.NO, FULL = PrinterLights.FULL;
    private static final int NONE = PrinterLights.NONE;

    public static void main(String[] args) {
        ordersTaken();
        twoMachines();
        late();
        leastLate();
        leastBits();
        lowerOrders();
        keptAtMost();
        keptReels();
        orderRefused();
        dropRefused();
        planNumbers();
        planRefused();
        keepFull();
        backNo();
        countAll();
        lastCall();
        Doc.termsAreWhole(6);
        Doc.promisesAreWhole(33, 38);
        Check.end();
    }

    private static PrinterLights fresh() {
        return new PrinterLights();
    }

    private static PrinterLights with(int orders) {
        PrinterLights x = fresh();
        for (int k = 0; k < orders; k++) {
            x.order(1, 400, 1, 0);
        }
        return x;
    }

    private static PrinterLights with(int[]... orders) {
        PrinterLights x = fresh();
        for (int[] order : orders) {
            x.order(order[0], order[1], order[2], order[3]);
        }
        return x;
    }

    private static int[] order(int hours, int due, int weight, int negative) {
        return new int[] {hours, due, weight, negative};
    }

    private static void machinesHave(PrinterLights x, int[] zero, int[] one) {
        Check.due("how many on 0", x.plan(2), zero.length);
        Check.due("how many on 1", x.plan(3), one.length);
        for (int i = 0; i < 8; i++) {
            Check.due("on 0, " + i, x.plan(10 + i), i < zero.length ? zero[i] : NONE);
            Check.due("on 1, " + i, x.plan(20 + i), i < one.length ? one[i] : NONE);
        }
    }

    // ---- Terms, part 6

    private static void ordersTaken() {
        Doc.terms(6, "ORDERS, 8 at most: hours of work (1 to 40), due at an hour (0 to 400), a weight (1 to 20),"
            + " a NEGATIVE (0 to 5).");
        Check.due("the 8th", with(7).order(1, 0, 1, 0), 7);
        Check.due("the 9th", with(8).order(1, 0, 1, 0), FULL);
        Check.range("hours", 1, 40, BAD, v -> fresh().order(v, 400, 20, 5));
        Check.range("due", 0, 400, BAD, v -> fresh().order(40, v, 20, 5));
        Check.range("weight", 1, 20, BAD, v -> fresh().order(40, 400, v, 5));
        Check.range("negative", 0, 5, BAD, v -> fresh().order(40, 400, 20, v));
    }

    private static void twoMachines() {
        Doc.terms(6, "Two MACHINES begin at hour 0; orders of one NEGATIVE go on one MACHINE.");
        PrinterLights x = with(order(10, 10, 1, 0), order(10, 10, 1, 1));
        Check.due("both begin at hour 0", x.plan(0), 0);
        machinesHave(x, new int[] {1}, new int[] {0});
        PrinterLights y = with(order(10, 10, 1, 5), order(10, 10, 1, 5));
        Check.due("of one NEGATIVE, one behind the other", y.plan(0), 10);
        machinesHave(y, new int[] {0, 1}, new int[0]);
        PrinterLights z = with(order(10, 10, 1, 0), order(10, 10, 1, 1), order(10, 10, 1, 2));
        Check.due("there is no third MACHINE", z.plan(0), 10);
        PrinterLights most = fresh();
        for (int k = 0; k < 8; k++) {
            most.order(40, 0, 20, 3);
        }
        Check.due("the most LATE", most.plan(0), 20 * 40 * 36);
    }

    private static void late() {
        Doc.terms(6, "LATE is weight times (end less due), if that is above 0.");
        int[][] rows = {{40, 41, 20, 0}, {40, 40, 20, 0}, {40, 39, 20, 20}, {40, 38, 20, 40}, {40, 0, 20, 800},
            {1, 0, 1, 1}, {1, 1, 1, 0}, {1, 400, 1, 0}};
        for (int[] row : rows) {
            PrinterLights x = with(order(row[0], row[1], row[2], 5));
            Check.due(row[0] + " hours, due at " + row[1], x.plan(0), row[3]);
        }
        PrinterLights y = with(order(1, 400, 20, 0), order(10, 0, 1, 0));
        Check.due("what is early makes nothing less late", y.plan(0), 10);
    }

    private static void leastLate() {
        Doc.terms(6, "THE BEST: of all ways to give NEGATIVES to MACHINES (bits: NEGATIVE k on MACHINE 1),"
            + " and to go through the orders of each, that of least LATE together;");
        PrinterLights none = fresh();
        Check.due("no ORDERS: LATE", none.plan(0), 0);
        Check.due("no ORDERS: bits", none.plan(1), 0);
        machinesHave(none, new int[0], new int[0]);
        // NEGATIVES 1 and 5 together would be late by 40; 4 goes with 5
        PrinterLights x = with(order(40, 40, 1, 1), order(40, 40, 1, 5), order(1, 400, 1, 4));
        Check.due("bits of NEGATIVE 1", x.plan(1), 2);
        Check.due("LATE", x.plan(0), 0);
        machinesHave(x, new int[] {1, 2}, new int[] {0});
        // the heavier first, though it is the longer one: 20 + 2 against 1 * 20 + 3
        PrinterLights y = with(order(1, 0, 1, 0), order(2, 0, 20, 0));
        Check.due("the heavier first", y.plan(0), 40 + 3);
        machinesHave(y, new int[] {1, 0}, new int[0]);
    }

    private static void leastBits() {
        Doc.terms(6, "of several the least bits;");
        PrinterLights x = fresh();
        for (int negative = 0; negative < 6; negative++) {
            x.order(1, 400, 1, negative);
        }
        Check.due("none late: no bits", x.plan(1), 0);
        PrinterLights y = with(order(10, 10, 1, 4), order(10, 10, 1, 5));
        Check.due("16 rather than 32", y.plan(1), 16);
        PrinterLights z = with(order(10, 10, 1, 5), order(10, 10, 1, 0));
        Check.due("1 rather than 32", z.plan(1), 1);
        PrinterLights w = with(order(10, 20, 1, 0), order(10, 20, 1, 1), order(10, 20, 1, 2), order(10, 20, 1, 3));
        Check.due("two and two: 3 of 3, 5, 6, 9, 10, 12", w.plan(1), 3);
        PrinterLights v = with(order(30, 30, 1, 3), order(10, 30, 1, 0), order(10, 30, 1, 1), order(10, 30, 1, 2));
        Check.due("7 rather than 8", v.plan(1), 7);
    }

    private static void lowerOrders() {
        Doc.terms(6, "then the orders of MACHINE 0, then 1, that are lower, from the first on.");
        PrinterLights x = fresh();
        for (int k = 0; k < 8; k++) {
            x.order(40, 400, 20, k % 6);
        }
        machinesHave(x, new int[] {0, 1, 2, 3, 4, 5, 6, 7}, new int[0]);
        PrinterLights y = with(order(5, 0, 1, 0), order(5, 0, 1, 0), order(5, 0, 1, 0));
        machinesHave(y, new int[] {0, 1, 2}, new int[0]);
        // 1 is due first; of 0 and 2 behind it the lower one
        PrinterLights z = with(order(5, 15, 1, 0), order(5, 5, 1, 0), order(5, 15, 1, 0));
        machinesHave(z, new int[] {1, 0, 2}, new int[0]);
        // NEGATIVE 0 on MACHINE 1: 1 must be first there, then 3 ahead of 5; 0, 2, 4 on MACHINE 0
        PrinterLights w = with(order(5, 15, 1, 5), order(5, 5, 1, 0), order(5, 15, 1, 5), order(5, 15, 1, 0),
            order(5, 15, 1, 5), order(5, 15, 1, 0));
        Check.due("bits", w.plan(1), 1);
        machinesHave(w, new int[] {0, 2, 4}, new int[] {1, 3, 5});
    }

    private static void keptAtMost() {
        Doc.terms(6, "KEPT are THE LIST with its SPLICES, SHOTS' densities, AIMS, REELS; 2 at most.");
        PrinterLights x = fresh();
        for (int time = 1; time <= 2; time++) {
            Check.load(x, Check.shots(16, time));
            x.rule(3, time);
            x.run(0);
            x.shot(15, 2, 0, time);
            x.shot(15, 2, 1, 100 + time);
            x.reel(7, 0, 10 * time);
            x.from(15, 7, 20 + time);
            Check.due("KEPT", x.keep(), time);
        }
        Check.due("no third one", x.keep(), FULL);
        Check.load(x, Check.shots(1, 1));
        x.from(15, -1, 0);
        x.lose(7, true);
        for (int time = 2; time >= 1; time--) {
            Check.due("back", x.back(), time - 1);
            Check.due("THE LIST", x.list(1), 16 * time);
            Check.due("its SPLICES", x.splice(14), 100 - time);
            Check.due("density", x.shot(15, 2, 0, 60), time);
            Check.due("AIM", x.shot(15, 2, 1, -1), 100 + time);
            Check.due("from its REEL, from its EDGE on", x.edge(15 * time), 20 + time);
            Check.due("its REEL is not LOST", x.lose(7, true), 0);
        }
        Check.due("no more", x.back(), NO);
    }

    /** All eight REELS, each with a SHOT on its last frame. */
    private static void keptReels() {
        Doc.terms(6, "REELS; 2 at most.");
        PrinterLights x = Check.loaded(Check.shots(8, 1));
        for (int reel = 0; reel < 8; reel++) {
            x.reel(reel, 10 * reel, 2);
            x.from(reel, reel, 10 * reel + 1);
        }
        x.keep();
        for (int reel = 0; reel < 8; reel++) {
            x.lose(reel, true);
        }
        x.keep();
        for (int reel = 0; reel < 8; reel++) {
            x.reel(reel, 10 * reel, 1);
        }
        Check.due("a frame too few", x.missing(), 0xFF);
        Check.due("back, all LOST", x.back(), 1);
        for (int reel = 0; reel < 8; reel++) {
            Check.due("LOST " + reel, x.lose(reel, false), 1);
        }
        Check.due("as many frames as were KEPT", x.missing(), 0);
        for (int reel = 0; reel < 8; reel++) {
            x.reel(reel, 10 * reel + 2, 2);
            x.lose(reel, true);
        }
        Check.due("back, none LOST", x.back(), 0);
        Check.due("the first EDGE as KEPT", x.missing(), 0);
        PrinterLights y = fresh();
        y.keep();
        for (int reel = 0; reel < 8; reel++) {
            y.reel(reel, 0, 1);
        }
        y.back();
        Check.due("none was told", y.count(2), 0);
    }

    // ---- promises 33 to 35

    private static void orderRefused() {
        Doc.promise(33, "An ORDER: its number. BAD; FULL.");
        int[][] bad = {{0, 0, 1, 0}, {41, 0, 1, 0}, {1, -1, 1, 0}, {1, 401, 1, 0}, {1, 0, 0, 0}, {1, 0, 21, 0},
            {1, 0, 1, -1}, {1, 0, 1, 6}};
        for (int[] b : bad) {
            PrinterLights x = fresh();
            Check.due("BAD", x.order(b[0], b[1], b[2], b[3]), BAD);
            Check.due("nothing changes", x.count(3), 0);
            Check.due("BAD ahead of FULL", with(8).order(b[0], b[1], b[2], b[3]), BAD);
        }
        PrinterLights y = fresh();
        for (int k = 0; k < 8; k++) {
            Check.due("its number", y.order(1, 400, 1, 0), k);
        }
        Check.due("FULL", y.order(40, 0, 20, 0), FULL);
        Check.due("nothing changes", y.count(3), 8);
        Check.due("nothing changes", y.plan(0), 0);
        y.drop(0);
        Check.due("one is off: its number", y.order(40, 0, 20, 0), 7);
    }

    private static void dropRefused() {
        Doc.promise(34, "ORDER k is off (those behind are one number less): how many are left. BAD.");
        Check.due("none is there", fresh().drop(0), BAD);
        for (int n = 1; n <= 8; n++) {
            int orders = n;
            Check.range("of " + n, 0, n - 1, BAD, k -> with(orders).drop(k));
            Check.due("the last of " + n, with(n).drop(n - 1), n - 1);
        }
        for (int k = 0; k < 8; k++) {
            PrinterLights x = fresh();
            for (int i = 0; i < 8; i++) {
                x.order(40, i == k ? 0 : 400, 20, 0);
            }
            Check.due("with it", x.plan(0), 20 * 40);
            Check.due("left without " + k, x.drop(k), 7);
            Check.due("without it", x.plan(0), 0);
            machinesHave(x, new int[] {0, 1, 2, 3, 4, 5, 6}, new int[0]);
        }
        PrinterLights y = with(order(1, 400, 1, 0), order(2, 0, 1, 1), order(3, 0, 3, 2));
        y.drop(0);
        // 0 is 2 hours of weight 1, NEGATIVE 1; 1 is 3 hours of weight 3, NEGATIVE 2
        Check.due("those behind are one number less: LATE", y.plan(0), 2 + 9);
        Check.due("those behind are one number less: bits", y.plan(1), 2);
        machinesHave(y, new int[] {1}, new int[] {0});
        y.drop(1);
        Check.due("the last is off: LATE", y.plan(0), 2);
        Check.due("the last is off: bits", y.plan(1), 0);
        machinesHave(y, new int[] {0}, new int[0]);
    }

    private static void planNumbers() {
        Doc.promise(35, "LATE (what = 0), bits (1); 2 + m: how many orders MACHINE m has;"
            + " 10 + i, 20 + i: the i-th (0 to 7) of MACHINE 0, 1. NONE: no such one;");
        machinesHave(with(8), new int[] {0, 1, 2, 3, 4, 5, 6, 7}, new int[0]);
        PrinterLights x = fresh();
        for (int k = 0; k < 7; k++) {
            x.order(10, 10 * k + 10, 1, 0);
        }
        x.order(40, 40, 1, 5);
        Check.due("LATE", x.plan(0), 0);
        Check.due("bits", x.plan(1), 1);
        machinesHave(x, new int[] {7}, new int[] {0, 1, 2, 3, 4, 5, 6});
        Check.due("no such one", fresh().plan(10), NONE);
        Check.due("no such one", fresh().plan(27), NONE);
    }

    private static void planRefused() {
        Doc.promise(35, "BAD.");
        int[] refused = {Integer.MIN_VALUE, -10, -1, 4, 5, 9, 18, 19, 28, 29, 30, 37, Integer.MAX_VALUE};
        for (int what : refused) {
            Check.due("what " + what, with(8).plan(what), BAD);
            Check.due("what " + what + ", ahead of NONE", fresh().plan(what), BAD);
        }
        int[] taken = {0, 1, 2, 3, 10, 17, 20, 27};
        for (int what : taken) {
            Check.due("what " + what + " is no BAD", with(8).plan(what) == BAD ? 1 : 0, 0);
        }
    }

    // ---- promises 36 to 38

    private static void keepFull() {
        Doc.promise(36, "KEPT: how many. FULL.");
        PrinterLights x = Check.loaded(Check.shots(1, 1));
        Check.due("1", x.keep(), 1);
        Check.load(x, Check.shots(2, 1));
        Check.due("2", x.keep(), 2);
        Check.load(x, Check.shots(3, 1));
        Check.due("FULL", x.keep(), FULL);
        Check.due("nothing changes: how many", x.count(5), 2);
        Check.due("nothing changes: THE LIST", x.list(0), 3);
        Check.due("nothing changes: KEPT last", x.back(), 1);
        Check.due("nothing changes: KEPT last", x.list(0), 2);
        Check.due("2 again", x.keep(), 2);
        Check.due("FULL again", x.keep(), FULL);
        x.back();
        x.back();
        Check.due("nothing changes: KEPT first", x.list(0), 1);
        Check.due("without a LIST", fresh().keep(), 1);
    }

    private static void backNo() {
        Doc.promise(37, "As KEPT last: how many are left. NO.");
        Check.due("none KEPT", fresh().back(), NO);
        PrinterLights x = Check.loaded(Check.shots(2, 1));
        x.run(0);
        Check.due("none KEPT", x.back(), NO);
        Check.due("nothing changes: THE LIST", x.list(0), 2);
        Check.due("nothing changes: HOLD", x.splice(0), 96);
        Check.due("nothing changes: how many", x.count(5), 0);
        x.keep();
        x.keep();
        Check.due("1 is left", x.back(), 1);
        Check.due("0 are left", x.back(), 0);
        Check.due("none is left", x.back(), NO);
        Check.due("nothing changes", x.count(5), 0);
        PrinterLights y = fresh();
        y.keep();
        Check.load(y, Check.shots(1, 1));
        Check.due("back to no LIST", y.back(), 0);
        Check.due("no LIST", y.list(0), NO);
        Check.due("no LIST", y.run(0), NO);
    }

    private static void countAll() {
        Doc.promise(38, "How many: 0 bytes of THE TEXT, 1 STRIPS, 2 REELS told, 3 ORDERS, 4 splices OPEN, 5 KEPT,"
            + " 6 RUNS ever. BAD.");
        Check.range("what", 0, 6, BAD, w -> fresh().count(w));
        PrinterLights x = with(8);
        for (int i = 0; i < 20; i++) {
            x.strip(0, 0, 0);
        }
        for (int reel = 0; reel < 8; reel++) {
            x.reel(reel, 0, 1);
            x.lose(reel, true);
        }
        Check.load(x, Check.shots(16, 1));
        x.rule(3, 20);
        for (int i = 0; i < 5; i++) {
            x.run(i % 2);
        }
        x.run(0);
        x.keep();
        x.keep();
        Check.write(x, " ".repeat(400 - x.count(0)));
        int[] due = {400, 20, 8, 8, 1, 2, 5};
        for (int what = 0; what < due.length; what++) {
            Check.due("all that there may be, " + what, x.count(what), due[what]);
        }
        Check.load(x, Check.shots(1, 1));
        Check.due("LOADED anew, none OPEN", x.count(4), 0);
        Check.due("RUNS ever", x.count(6), 5);
        x.back();
        Check.due("back, OPEN again", x.count(4), 1);
        Check.due("RUNS ever", x.count(6), 5);
    }

    /** "An object is used for at most 512 calls after it has been made." */
    private static void lastCall() {
        Check.begin("What it is, \"at most 512 calls\"");
        PrinterLights x = fresh();
        Check.write(x, "s0,1,1,1,1;");
        x.load();
        for (int call = 3; call < 511; call++) {
            x.run(0);
        }
        Check.due("the 512th call", x.count(6), 508);
        PrinterLights y = fresh();
        for (int call = 0; call < 511; call++) {
            y.feet(1, 10000);
        }
        Check.due("the 512th call", y.bathTold(1, 2), 5110000);
    }
}
