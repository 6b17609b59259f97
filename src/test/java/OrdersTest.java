/** Promises 33 to 38. */
public final class OrdersTest {
    public static void main(String[] args) {
        order();
        drop();
        plan();
        planOfSeveral();
        keepAndBack();
        backToNoList();
        backToOtherReels();
        backToReelsAsTold();
        count();
        Check.end();
    }

    private static void order() {
        PrinterLights x = new PrinterLights();
        Check.due("33: the least", x.order(1, 0, 1, 0), 0);
        Check.due("33: the most", x.order(40, 400, 20, 5), 1);
        int[][] bad = {{0, 0, 1, 0}, {41, 0, 1, 0}, {1, -1, 1, 0}, {1, 401, 1, 0}, {1, 0, 0, 0}, {1, 0, 21, 0},
            {1, 0, 1, -1}, {1, 0, 1, 6}};
        for (int i = 0; i < bad.length; i++) {
            Check.due("33: bad row " + i, x.order(bad[i][0], bad[i][1], bad[i][2], bad[i][3]), PrinterLights.BAD);
        }
        for (int k = 2; k < 8; k++) {
            Check.due("33: its number", x.order(1, 0, 1, 0), k);
        }
        Check.due("33: FULL", x.order(1, 0, 1, 0), PrinterLights.FULL);
        Check.due("33: BAD ahead of FULL", x.order(0, 0, 1, 0), PrinterLights.BAD);
        Check.due("33: how many", x.count(3), 8);
    }

    private static void drop() {
        PrinterLights x = new PrinterLights();
        Check.due("34: none", x.drop(0), PrinterLights.BAD);
        x.order(1, 400, 1, 0);
        x.order(2, 0, 1, 1);
        x.order(3, 0, 3, 1);
        Check.due("34: -1", x.drop(-1), PrinterLights.BAD);
        Check.due("34: 3", x.drop(3), PrinterLights.BAD);
        Check.due("34: three", x.plan(0), 3 * 3 + 5);
        Check.due("34: the first", x.drop(0), 2);
        Check.due("34: those behind are one number less", x.plan(0), 3 * 3 + 5);
        Check.due("34: those behind are one number less", x.plan(10), 1);
        Check.due("34: those behind are one number less", x.plan(11), 0);
        Check.due("34: the last", x.drop(1), 1);
        Check.due("34: left", x.plan(0), 2);
        Check.due("34: the only one", x.drop(0), 0);
        Check.due("34: none left", x.drop(0), PrinterLights.BAD);
        Check.due("34: its number", x.order(1, 0, 1, 0), 0);
        for (int k = 1; k < 8; k++) {
            x.order(k, 0, 1, 0);
        }
        Check.due("34: of eight", x.drop(0), 7);
        Check.due("34: of eight the last is there", x.drop(6), 6);
    }

    private static void planIs(PrinterLights x, int late, int bits, int[] zero, int[] one) {
        Check.due("35: LATE", x.plan(0), late);
        Check.due("35: bits", x.plan(1), bits);
        Check.due("35: how many on 0", x.plan(2), zero.length);
        Check.due("35: how many on 1", x.plan(3), one.length);
        for (int i = 0; i < 8; i++) {
            Check.due("35: on 0, " + i, x.plan(10 + i), i < zero.length ? zero[i] : PrinterLights.NONE);
            Check.due("35: on 1, " + i, x.plan(20 + i), i < one.length ? one[i] : PrinterLights.NONE);
        }
    }

    private static void plan() {
        PrinterLights x = new PrinterLights();
        planIs(x, 0, 0, new int[0], new int[0]);
        int[] bad = {-1, 4, 9, 18, 19, 28, 30, 100, Integer.MIN_VALUE, Integer.MAX_VALUE};
        for (int what : bad) {
            Check.due("35: " + what, x.plan(what), PrinterLights.BAD);
        }
        x.order(10, 10, 1, 5);
        planIs(x, 0, 0, new int[] {0}, new int[0]);
        x.order(10, 10, 1, 3);
        planIs(x, 0, 1 << 3, new int[] {0}, new int[] {1});
        x.order(10, 9, 2, 5);
        // 5 alone: 2 late by 1, weight 2, then 0 late by 10
        planIs(x, 12, 1 << 3, new int[] {2, 0}, new int[] {1});
        x.order(1, 400, 20, 0);
        planIs(x, 12, 1 << 3, new int[] {2, 0, 3}, new int[] {1});
    }

    private static void planOfSeveral() {
        PrinterLights x = new PrinterLights();
        for (int k = 0; k < 8; k++) {
            x.order(40, 400, 1, k % 6);
        }
        planIs(x, 0, 0, new int[] {0, 1, 2, 3, 4, 5, 6, 7}, new int[0]);
        PrinterLights y = new PrinterLights();
        y.order(5, 0, 1, 0);
        y.order(5, 0, 1, 0);
        y.order(4, 0, 1, 0);
        planIs(y, 4 + 9 + 14, 0, new int[] {2, 0, 1}, new int[0]);
        PrinterLights z = new PrinterLights();
        z.order(3, 100, 1, 0);
        z.order(40, 40, 20, 0);
        z.order(2, 200, 1, 0);
        // 1 must be first; of the others the lower one
        planIs(z, 0, 0, new int[] {1, 0, 2}, new int[0]);
        z.order(40, 40, 20, 1);
        z.order(30, 400, 1, 1);
        planIs(z, 0, 1, new int[] {3, 4}, new int[] {1, 0, 2});
    }

    private static PrinterLights told() {
        PrinterLights x = new PrinterLights();
        Check.load(x, "s0,3,9,9,9;f2,1,1,1;s1,4,5,5,5;e1,2,1;c3;");
        x.shot(1, 2, 0, 17);
        x.shot(15, 0, 1, 200);
        x.reel(4, 100, 50);
        x.from(1, 4, 120);
        x.run(0);
        return x;
    }

    private static void isAsTold(String when, PrinterLights x) {
        Check.due(when + " SHOTS", x.list(0), 2);
        Check.due(when + " frames", x.list(1), 7);
        Check.due(when + " COPIES", x.list(2), 3);
        Check.due(when + " FADE", x.light(2, 1), 1);
        Check.due(when + " LIGHT", x.light(3, 1), 5);
        Check.due(when + " EFFECT", x.light(4, 1), 4);
        Check.due(when + " behind the EFFECT", x.light(6, 1), 5);
        Check.due(when + " splice", x.splice(0), 96);
        Check.due(when + " density", x.shot(1, 2, 0, 17), 17);
        Check.due(when + " AIM", x.shot(15, 0, 1, 200), 200);
        Check.due(when + " EDGE", x.edge(4), 121);
        Check.due(when + " from none", x.edge(0), PrinterLights.NONE);
    }

    private static void keepAndBack() {
        PrinterLights x = told();
        Check.due("37: none KEPT", x.back(), PrinterLights.NO);
        Check.due("36: one", x.keep(), 1);
        isAsTold("36: KEPT,", x);
        x.run(0);
        x.shot(1, 2, 0, 40);
        x.shot(15, 0, 1, -1);
        x.from(1, 4, 130);
        Check.load(x, "s0,1,2,3,4;f1,5,6,7;e0,1,1;s1,1,8,8,8;f1,9,9,9;s2,1,8,8,8;c9;");
        x.run(0);
        x.run(0);
        Check.due("36: two", x.keep(), 2);
        Check.due("36: FULL", x.keep(), PrinterLights.FULL);
        Check.due("36: KEPT", x.count(5), 2);
        Check.load(x, "s0,1,1,1,1;");
        x.shot(1, 2, 0, 50);
        Check.due("37: one left", x.back(), 1);
        Check.due("37: KEPT last, SHOTS", x.list(0), 3);
        Check.due("37: KEPT last, LIGHT", x.light(0, 2), 6);
        Check.due("37: KEPT last, splice", x.splice(1), 92);
        Check.due("37: KEPT last, density", x.shot(1, 2, 0, 50), 40);
        Check.due("37: KEPT last, EDGE", x.edge(1), 130);
        Check.due("37: the TEXT is not KEPT", x.count(0), 11);
        x.lamp(0, 9);
        x.rule(3, 7);
        x.order(1, 1, 1, 1);
        x.strip(1, 1, 1);
        Check.due("37: none left", x.back(), 0);
        isAsTold("37: as KEPT first,", x);
        Check.due("37: no LAMPS", x.lamp(0, 0), 9);
        Check.due("37: no rules", x.rule(3, 4), 7);
        Check.due("37: no ORDERS", x.count(3), 1);
        Check.due("37: no STRIPS", x.count(1), 1);
        Check.due("37: RUNS ever", x.count(6), 4);
        Check.due("37: FEET", x.bathTold(0, 2), 4);
        Check.due("37: NO", x.back(), PrinterLights.NO);
        isAsTold("37: NO changes nothing,", x);
        Check.due("36: one again", x.keep(), 1);
    }

    private static void backToNoList() {
        PrinterLights x = new PrinterLights();
        Check.due("36: no LIST", x.keep(), 1);
        Check.load(x, "s0,1,1,1,1;");
        Check.due("37: no LIST", x.back(), 0);
        Check.due("37: no LIST", x.list(0), PrinterLights.NO);
        Check.due("37: no LIST", x.light(0, 0), PrinterLights.NO);
        PrinterLights y = new PrinterLights();
        Check.load(y, "s0,1,1,1,1;s1,1,1,1,1;");
        y.rule(3, 20);
        for (int i = 0; i < 5; i++) {
            y.run(0);
        }
        y.keep();
        y.mend();
        Check.due("37: mended", y.run(0), 2);
        y.back();
        Check.due("37: OPEN again", y.count(4), 1);
        Check.due("37: OPEN again", y.run(0), PrinterLights.NO);
    }

    private static void backToOtherReels() {
        PrinterLights x = new PrinterLights();
        Check.load(x, "s0,1,1,1,1;s1,1,1,1,1;");
        x.reel(0, 0, 9);
        x.reel(1, 0, 9);
        x.from(1, 0, 5);
        x.keep();
        x.from(0, 1, 5);
        x.from(1, 1, 6);
        Check.due("36: no splice", x.splice(0), PrinterLights.NONE);
        x.lose(1, true);
        x.back();
        Check.due("37: from none again", x.edge(0), PrinterLights.NONE);
        Check.due("37: from its REEL again", x.where(0, 5), 1);
        Check.due("37: not from the other", x.where(1, 6), PrinterLights.NONE);
        Check.due("37: spliced again", x.splice(0), 100);
        Check.due("37: not LOST again", x.lose(1, false), 0);
    }

    private static void backToReelsAsTold() {
        PrinterLights x = new PrinterLights();
        Check.load(x, "s0,3,1,1,1;s1,3,1,1,1;");
        x.reel(0, 10, 3);
        x.from(0, 0, 10);
        x.keep();
        x.reel(0, 10, 2);
        x.reel(7, 50, 9);
        x.from(1, 7, 50);
        x.lose(7, true);
        Check.due("36: REELS are KEPT, not shared", x.missing(), 3);
        Check.due("36: two", x.keep(), 2);
        x.reel(7, 50, 9);
        x.reel(3, 0, 1);
        x.reel(0, 10, 3);
        Check.due("36: none is missing", x.missing(), 0);
        Check.due("36: three told", x.count(2), 3);
        Check.due("37: KEPT last", x.back(), 1);
        Check.due("37: as many frames, and LOST, as then", x.missing(), 3);
        Check.due("37: two told", x.count(2), 2);
        Check.due("37: 3 is not told", x.lose(3, true), PrinterLights.NO);
        Check.due("37: 7 is LOST", x.lose(7, true), 1);
        Check.due("37: KEPT first", x.back(), 0);
        Check.due("37: as many frames as at first", x.missing(), 2);
        Check.due("37: one told", x.count(2), 1);
        Check.due("37: 7 is not told", x.lose(7, true), PrinterLights.NO);
        Check.due("37: 7 is not told", x.from(1, 7, 50), PrinterLights.NO);
        Check.due("37: NO changes nothing", x.back(), PrinterLights.NO);
        Check.due("37: NO changes nothing", x.count(2), 1);
        x.reel(0, 11, 3);
        Check.due("37: told anew", x.missing(), 3);
        x.keep();
        x.reel(0, 10, 3);
        x.back();
        Check.due("37: the first EDGE as KEPT", x.missing(), 3);
        PrinterLights y = new PrinterLights();
        y.reel(2, 0, 1);
        y.lose(2, true);
        y.keep();
        y.lose(2, false);
        y.back();
        Check.due("37: LOST as KEPT, without a LIST", y.lose(2, false), 1);
    }

    private static void count() {
        PrinterLights x = told();
        x.strip(1, 1, 1);
        x.strip(1, 1, 100);
        x.reel(0, 1, 1);
        x.reel(0, 2, 1);
        x.lose(0, true);
        x.order(1, 1, 1, 1);
        x.keep();
        int[] due = {41, 2, 2, 1, 0, 1, 1};
        for (int what = 0; what < due.length; what++) {
            Check.due("38: " + what, x.count(what), due[what]);
        }
        x.rule(3, 20);
        for (int i = 0; i < 5; i++) {
            x.run(1);
        }
        Check.due("38: OPEN", x.count(4), 1);
        Check.due("38: RUNS", x.count(6), 6);
        Check.due("38: 7", x.count(7), PrinterLights.BAD);
        Check.due("38: -1", x.count(-1), PrinterLights.BAD);
    }
}
