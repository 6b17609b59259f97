/** Promises 24 to 32. */
public final class ReelsTest {
    public static void main(String[] args) {
        reel();
        lose();
        from();
        edge();
        missing();
        where();
        splice();
        run();
        runTillOneOpens();
        wearByLight();
        runSixteen();
        mend();
        Check.end();
    }

    private static void reel() {
        PrinterLights x = new PrinterLights();
        Check.due("24: first", x.reel(0, 0, 1), 0);
        Check.due("24: last edge 100000", x.reel(7, 98001, 2000), 0);
        Check.due("24: beyond 100000", x.reel(7, 98002, 2000), PrinterLights.BAD);
        Check.due("24: at 100000", x.reel(6, 100000, 1), 0);
        Check.due("24: beyond 100000", x.reel(6, 100000, 2), PrinterLights.BAD);
        int[][] bad = {{-1, 0, 1}, {8, 0, 1}, {0, -1, 1}, {0, 100001, 1}, {0, 0, 0}, {0, 0, 2001}};
        for (int[] b : bad) {
            Check.due("24: " + b[0] + " " + b[1] + " " + b[2], x.reel(b[0], b[1], b[2]), PrinterLights.BAD);
        }
        Check.due("24: told", x.count(2), 3);
        x.lose(0, true);
        Check.due("24: a BAD changes nothing", x.reel(0, 0, 0), PrinterLights.BAD);
        Check.due("24: LOST", x.lose(0, true), 1);
        Check.due("24: anew", x.reel(0, 5, 6), 0);
        Check.due("24: not LOST then", x.lose(0, false), 0);
        Check.due("24: told", x.count(2), 3);
    }

    private static void lose() {
        PrinterLights x = new PrinterLights();
        Check.due("25: not told", x.lose(3, true), PrinterLights.NO);
        Check.due("25: BAD", x.lose(-1, true), PrinterLights.BAD);
        Check.due("25: BAD", x.lose(8, true), PrinterLights.BAD);
        x.reel(3, 0, 10);
        Check.due("25: was not", x.lose(3, true), 0);
        Check.due("25: was", x.lose(3, true), 1);
        Check.due("25: was", x.lose(3, false), 1);
        Check.due("25: was not", x.lose(3, false), 0);
    }

    private static void from() {
        PrinterLights x = new PrinterLights();
        Check.load(x, "s0,2,1,1,1;");
        Check.due("26: not told", x.from(0, 0, 5), PrinterLights.NO);
        Check.due("26: NO changes nothing", x.edge(0), PrinterLights.NONE);
        x.reel(7, 0, 10);
        Check.due("26: from a REEL", x.from(0, 7, 100000), 0);
        Check.due("26: its EDGE", x.edge(0), 100000);
        Check.due("26: beyond 100000", x.edge(1), 100001);
        Check.due("26: from a LOST one", x.lose(7, true), 0);
        Check.due("26: from a LOST one", x.from(0, 7, 0), 0);
        Check.due("26: its EDGE", x.edge(1), 1);
        Check.due("26: from none", x.from(0, -1, 0), 0);
        Check.due("26: no EDGE", x.edge(0), PrinterLights.NONE);
        Check.due("26: a SHOT that is not in THE LIST", x.from(15, 7, 3), 0);
        int[][] bad = {{-1, 7, 0}, {16, 7, 0}, {0, -2, 0}, {0, 8, 0}, {0, 7, -1}, {0, 7, 100001}, {0, -1, -1},
            {0, 3, -1}};
        for (int[] b : bad) {
            Check.due("26: " + b[0] + " " + b[1] + " " + b[2], x.from(b[0], b[1], b[2]), PrinterLights.BAD);
        }
    }

    private static void edge() {
        PrinterLights x = new PrinterLights();
        Check.due("27: no LIST", x.edge(0), PrinterLights.NO);
        Check.due("27: BAD ahead of NO", x.edge(-1), PrinterLights.BAD);
        Check.load(x, "s0,3,1,1,1;s1,2,1,1,1;");
        x.reel(0, 50, 2);
        x.from(1, 0, 50);
        Check.due("27: from none", x.edge(2), PrinterLights.NONE);
        Check.due("27: first", x.edge(3), 50);
        Check.due("27: last", x.edge(4), 51);
        Check.due("27: no such frame", x.edge(5), PrinterLights.NO);
        Check.due("27: BAD", x.edge(-1), PrinterLights.BAD);
    }

    private static void missing() {
        PrinterLights x = new PrinterLights();
        Check.due("28: no LIST", x.missing(), PrinterLights.NO);
        Check.load(x, "s0,3,1,1,1;s1,2,1,1,1;s2,4,1,1,1;");
        Check.due("28: from none", x.missing(), 7);
        x.reel(0, 50, 3);
        x.reel(1, 0, 9);
        x.from(0, 0, 50);
        Check.due("28: all on it", x.missing(), 6);
        x.from(0, 0, 51);
        Check.due("28: the last is not on it", x.missing(), 7);
        x.from(0, 0, 49);
        Check.due("28: the first is not on it", x.missing(), 7);
        x.from(0, 0, 50);
        x.from(1, 1, 7);
        x.from(2, 1, 0);
        Check.due("28: none", x.missing(), 0);
        x.lose(1, true);
        Check.due("28: LOST", x.missing(), 6);
        x.lose(1, false);
        Check.due("28: found", x.missing(), 0);
        x.reel(1, 0, 8);
        Check.due("28: told anew", x.missing(), 2);
        x.from(2, -1, 0);
        Check.due("28: from none again", x.missing(), 6);
    }

    private static void where() {
        PrinterLights x = new PrinterLights();
        Check.due("29: no LIST", x.where(0, 0), PrinterLights.NO);
        Check.due("29: BAD ahead of NO", x.where(8, 0), PrinterLights.BAD);
        Check.load(x, "s0,3,1,1,1;s1,2,1,1,1;s2,4,1,1,1;");
        Check.due("29: not told", x.where(0, 0), PrinterLights.NONE);
        x.reel(0, 10, 100);
        x.reel(1, 10, 100);
        x.from(0, 0, 20);
        x.from(1, 1, 20);
        x.from(2, 0, 21);
        Check.due("29: the least", x.where(0, 21), 1);
        Check.due("29: first", x.where(0, 20), 0);
        Check.due("29: the later SHOT", x.where(0, 23), 7);
        Check.due("29: last", x.where(0, 24), 8);
        Check.due("29: behind it", x.where(0, 25), PrinterLights.NONE);
        Check.due("29: ahead of it", x.where(0, 19), PrinterLights.NONE);
        Check.due("29: another REEL", x.where(1, 21), 4);
        Check.due("29: behind it on another REEL", x.where(1, 22), PrinterLights.NONE);
        int[][] bad = {{-1, 0}, {8, 0}, {0, -1}, {0, 100001}};
        for (int[] b : bad) {
            Check.due("29: " + b[0] + " " + b[1], x.where(b[0], b[1]), PrinterLights.BAD);
        }
        Check.due("29: 100000", x.where(0, 100000), PrinterLights.NONE);
        Check.load(x, "s0,3,1,1,1;");
        Check.due("29: a SHOT that is not in THE LIST", x.where(1, 20), PrinterLights.NONE);
        Check.load(x, Check.sixteenShots(1));
        x.reel(7, 3, 1);
        x.from(15, 7, 3);
        Check.due("29: the last of sixteen SHOTS", x.where(7, 3), 15);
        Check.due("29: behind the last of sixteen SHOTS", x.where(7, 4), PrinterLights.NONE);
    }

    private static void splice() {
        PrinterLights x = new PrinterLights();
        Check.due("30: no LIST", x.splice(0), PrinterLights.NO);
        Check.due("30: -1", x.splice(-1), PrinterLights.BAD);
        Check.due("30: 15", x.splice(15), PrinterLights.BAD);
        Check.load(x, "s0,3,1,1,1;s1,2,1,1,1;s2,4,1,1,1;");
        Check.due("30: at first", x.splice(0), 100);
        Check.due("30: the last", x.splice(1), 100);
        Check.due("30: no SHOT behind", x.splice(2), PrinterLights.NO);
        Check.due("30: 14", x.splice(14), PrinterLights.NO);
        x.reel(0, 0, 100);
        x.reel(1, 0, 100);
        x.from(0, 0, 10);
        x.from(1, 0, 13);
        Check.due("30: just behind", x.splice(0), PrinterLights.NONE);
        x.from(1, 0, 14);
        Check.due("30: not just behind", x.splice(0), 100);
        x.from(1, 1, 13);
        Check.due("30: another REEL", x.splice(0), 100);
        x.from(0, -1, 0);
        x.from(1, -1, 3);
        Check.due("30: both from none", x.splice(0), 100);
        x.run(0);
        Check.due("30: worn", x.splice(0), 96);
        x.load();
        Check.due("30: LOADED anew", x.splice(0), 100);
    }

    private static void run() {
        PrinterLights x = new PrinterLights();
        Check.due("31: no LIST", x.run(0), PrinterLights.NO);
        Check.due("31: BAD ahead of NO", x.run(2), PrinterLights.BAD);
        Check.load(x, "s0,30,1,1,1;s1,2,1,1,1;s2,1,1,1,1;c9;");
        Check.due("31: BAD", x.run(-1), PrinterLights.BAD);
        Check.due("31: all", x.run(1), 3);
        Check.due("31: FEET rounded up, of one COPY", x.bathTold(1, 2), 3);
        Check.due("31: the other BATH", x.bathTold(0, 2), 0);
        Check.due("31: RUNS", x.count(6), 1);
        x.rule(3, 20);
        Check.due("31: all", x.run(1), 3);
        Check.due("31: another WEAR", x.splice(0), 76);
        Check.due("31: another WEAR", x.splice(1), 76);
        x.feet(1, 93);
        Check.due("31: not yet tired", x.bathTold(1, 0), 800);
        x.run(1);
        Check.due("31: tired", x.bathTold(1, 0), 795);
        Check.due("31: FEET", x.bathTold(1, 2), 102);
        Check.load(x, "s0,32,1,1,1;");
        Check.due("31: one SHOT", x.run(0), 1);
        Check.due("31: FEET", x.bathTold(0, 2), 2);
        Check.due("31: RUNS", x.count(6), 4);
    }

    private static void runTillOneOpens() {
        PrinterLights x = new PrinterLights();
        Check.load(x, "s0,16,1,1,1;s1,17,1,1,1;s2,100,1,1,1;");
        x.reel(0, 0, 1000);
        x.from(0, 0, 0);
        x.from(1, 0, 16);
        x.rule(3, 20);
        for (int i = 0; i < 4; i++) {
            Check.due("31: holds", x.run(0), 3);
        }
        Check.due("31: HOLD 20", x.splice(1), 20);
        Check.due("31: FEET", x.bathTold(0, 2), 4 * 9);
        Check.due("31: OPENS", x.run(0), 2);
        Check.due("31: HOLD 0", x.splice(1), 0);
        Check.due("31: FEET of what is ahead of it", x.bathTold(0, 2), 4 * 9 + 3);
        Check.due("31: RUNS", x.count(6), 5);
        Check.due("31: OPEN", x.count(4), 1);
        Check.due("31: NO", x.run(0), PrinterLights.NO);
        Check.due("31: BAD ahead of NO", x.run(2), PrinterLights.BAD);
        Check.due("31: nothing changes", x.bathTold(0, 2), 4 * 9 + 3);
        Check.due("31: nothing changes", x.count(6), 5);
        Check.due("31: what is no splice is not worn", x.from(1, -1, 0), 0);
        Check.due("31: what is no splice is not worn", x.splice(0), 100);
        PrinterLights y = new PrinterLights();
        Check.load(y, "s0,16,1,1,1;s1,17,1,1,1;s2,100,1,1,1;");
        y.rule(3, 15);
        for (int i = 0; i < 6; i++) {
            y.run(0);
        }
        Check.due("31: HOLD 10", y.splice(0), 10);
        Check.due("31: OPENS", y.run(0), 1);
        Check.due("31: not below 0", y.splice(0), 0);
        Check.due("31: those behind it are not worn", y.splice(1), 10);
        Check.due("31: LOADED anew", y.load(), 133);
        Check.due("31: none OPEN", y.count(4), 0);
        Check.due("31: runs again", y.run(0), 3);
    }

    private static void wearByLight() {
        PrinterLights x = new PrinterLights();
        Check.load(x, "s0,2,20,20,20;s1,2,29,11,20;s2,2,29,11,30;s3,2,29,1,30;s4,1,29,10,30;");
        x.run(0);
        int[] due = {96, 94, 94, 96};
        for (int k = 0; k < due.length; k++) {
            Check.due("31: off by 9, 10, 10, 9: " + k, x.splice(k), due[k]);
        }
        Check.load(x, "s0,2,20,20,20;f1,9,20,20;s1,2,20,20,20;e0,1,19;s2,2,20,20,20;e1,1,19;s3,1,1,20,20;");
        x.run(0);
        int[] dueOfFades = {94, 96, 94};
        for (int k = 0; k < dueOfFades.length; k++) {
            Check.due("31: FADES and EFFECTS: " + k, x.splice(k), dueOfFades[k]);
        }
    }

    private static void runSixteen() {
        PrinterLights x = new PrinterLights();
        Check.load(x, Check.sixteenShots(400));
        Check.due("28: sixteen SHOTS", x.missing(), 0xFFFF);
        Check.due("30: the last splice of all", x.splice(14), 100);
        Check.due("31: sixteen SHOTS", x.run(0), 16);
        Check.due("31: the last splice of all", x.splice(14), 96);
        Check.due("31: FEET", x.bathTold(0, 2), 400);
        Check.due("31: tired four times", x.bathTold(0, 0), 780);
    }

    private static void mend() {
        PrinterLights x = new PrinterLights();
        Check.due("32: no LIST", x.mend(), 0);
        Check.load(x, "s0,1,1,1,1;s1,1,1,1,1;s2,1,1,1,1;");
        x.rule(3, 20);
        Check.due("32: none OPEN", x.mend(), 0);
        Check.due("32: none OPEN", x.splice(0), 100);
        for (int i = 0; i < 5; i++) {
            x.run(0);
        }
        Check.due("32: one", x.mend(), 1);
        Check.due("32: by hand", x.splice(0), 80);
        Check.due("32: the other", x.splice(1), 20);
        Check.due("32: none OPEN", x.count(4), 0);
        Check.due("32: again", x.mend(), 0);
        Check.due("32: runs again, till the other OPENS", x.run(0), 2);
        Check.due("32: worn from 80", x.splice(0), 60);
        Check.due("32: the other", x.mend(), 1);
        Check.due("32: the other by hand", x.splice(1), 80);
    }
}
