/** The boundaries that the document names in part 5 of its Terms and in the promises 24 to 32, sentence by sentence. */
public final class ReelsBoundsTest {
    private static final int BAD = PrinterLights.BAD, NO = PrinterLights.NO, NONE = PrinterLights.NONE;

    public static void main(String[] args) {
        reels();
        fromNoneAtFirst();
        edgeOfAFrame();
        missingShots();
        whereItIsPrinted();
        splicesStand();
        holdAtFirst();
        wear();
        wearByLight();
        opens();
        wornFromTheFirst();
        feetOfARun();
        splicedByHand();
        reelAnew();
        reelBad();
        loseRefused();
        fromRefused();
        edgeRefused();
        missingRefused();
        whereRefused();
        spliceRefused();
        runRefused();
        mendCounts();
        Doc.termsAreWhole(5);
        Doc.promisesAreWhole(24, 32);
        Check.end();
    }

    private static PrinterLights fresh() {
        return new PrinterLights();
    }

    private static PrinterLights shots(int n, int frames) {
        return Check.loaded(Check.shots(n, frames));
    }

    /** Two SHOTS of two frames, and REELS 0 and 7 of all that they may have from EDGE 10 on. */
    private static PrinterLights twoShots() {
        PrinterLights x = shots(2, 2);
        x.reel(0, 10, 2000);
        x.reel(7, 10, 2000);
        return x;
    }

    private static void run(PrinterLights x, int times) {
        for (int i = 0; i < times; i++) {
            x.run(0);
        }
    }

    // ---- Terms, part 5: reels

    private static void reels() {
        Doc.terms(5, "REELS 0 to 7: a first EDGE number (0 to 100000; frames are numbered on),"
            + " how many frames (1 to 2000); LOST or not.");
        Check.range("reel", 0, 7, BAD, r -> fresh().reel(r, 0, 1));
        Check.range("first EDGE", 0, 100000, BAD, e -> fresh().reel(7, e, 1));
        Check.range("frames", 1, 2000, BAD, n -> fresh().reel(7, 0, n));
        PrinterLights x = shots(5, 400);
        x.reel(3, 98001, 2000);
        for (int shot = 0; shot < 5; shot++) {
            x.from(shot, 3, 98001 + 400 * shot);
        }
        Check.due("the most frames, up to the last EDGE of all", x.missing(), 0);
        Check.due("the last EDGE of all", x.edge(1999), 100000);
        Check.due("all eight told", told(8).count(2), 8);
        Check.due("not LOST at first", told(8).lose(7, true), 0);
    }

    private static PrinterLights told(int reels) {
        PrinterLights x = fresh();
        for (int reel = 0; reel < reels; reel++) {
            x.reel(reel, 0, 1);
        }
        return x;
    }

    private static void fromNoneAtFirst() {
        Doc.terms(5, "SHOTS come from a REEL, from an EDGE on (or from none, at first).");
        PrinterLights x = shots(16, 1);
        for (int shot = 0; shot < 16; shot++) {
            Check.due("no EDGE of SHOT " + shot, x.edge(shot), NONE);
        }
        Check.due("all are MISSING", x.missing(), 0xFFFF);
        x.reel(0, 0, 1);
        Check.due("none is printed", x.where(0, 0), NONE);
        Check.range("an EDGE", 0, 100000, BAD, e -> told(1).from(0, 0, e));
    }

    private static void edgeOfAFrame() {
        Doc.terms(5, "THE EDGE of a frame of THE LIST: that of its SHOT and how far it is in it.");
        PrinterLights x = twoShots();
        x.from(0, 7, 0);
        x.from(1, 0, 100000);
        int[] due = {0, 1, 100000, 100001};
        for (int frame = 0; frame < due.length; frame++) {
            Check.due("frame " + frame, x.edge(frame), due[frame]);
        }
    }

    private static void missingShots() {
        Doc.terms(5, "MISSING are SHOTS that come from none, from a REEL that is LOST, or of which a frame is not on it.");
        PrinterLights x = shots(1, 3);
        x.reel(0, 50, 4);
        Check.due("from none", x.missing(), 1);
        int[][] rows = {{46, 1}, {47, 1}, {49, 1}, {50, 0}, {51, 0}, {52, 1}, {53, 1}, {54, 1}};
        for (int[] row : rows) {
            x.from(0, 0, row[0]);
            Check.due("from EDGE " + row[0], x.missing(), row[1]);
        }
        x.from(0, 0, 50);
        x.lose(0, true);
        Check.due("LOST", x.missing(), 1);
        x.lose(0, false);
        Check.due("not LOST", x.missing(), 0);
        x.reel(0, 50, 3);
        Check.due("just as many frames", x.missing(), 0);
        x.reel(0, 50, 2);
        Check.due("a frame too few", x.missing(), 1);
        x.reel(0, 51, 3);
        Check.due("the first is not on it", x.missing(), 1);
        x.reel(0, 49, 2000);
        Check.due("all are on it", x.missing(), 0);
        x.from(0, -1, 50);
        Check.due("from none again", x.missing(), 1);
    }

    private static void whereItIsPrinted() {
        Doc.terms(5, "WHERE a REEL's EDGE is printed: the least frame of THE LIST with it.");
        PrinterLights x = twoShots();
        x.from(0, 7, 20);
        x.from(1, 7, 20);
        Check.due("both have it, the first frame", x.where(7, 20), 0);
        Check.due("both have it, the last frame", x.where(7, 21), 1);
        x.from(0, 7, 21);
        Check.due("the least frame, not the first of a SHOT", x.where(7, 21), 0);
        Check.due("the later SHOT alone", x.where(7, 20), 2);
        Check.due("the earlier SHOT alone", x.where(7, 22), 1);
        Check.due("ahead of all", x.where(7, 19), NONE);
        Check.due("behind all", x.where(7, 23), NONE);
        Check.due("another REEL", x.where(0, 21), NONE);
        x.from(0, 0, 0);
        x.from(1, 0, 100000);
        Check.due("the least EDGE", x.where(0, 0), 0);
        Check.due("the last EDGE", x.where(0, 100000), 2);
    }

    // ---- Terms, part 5: splices

    private static void splicesStand() {
        Doc.terms(5, "SPLICES stand between SHOTS of THE LIST that do not come one just behind the other from one REEL.");
        PrinterLights x = twoShots();
        Check.due("both from none", x.splice(0), 100);
        x.from(0, 0, 20);
        Check.due("the next from none", x.splice(0), 100);
        int[][] rows = {{0, 20, 100}, {0, 21, 100}, {0, 22, NONE}, {0, 23, 100}, {7, 22, 100}, {0, 18, 100}, {-1, 22, 100}};
        for (int[] row : rows) {
            x.from(1, row[0], row[1]);
            Check.due("from REEL " + row[0] + ", EDGE " + row[1], x.splice(0), row[2]);
        }
        x.from(0, -1, 20);
        x.from(1, -1, 22);
        Check.due("from none, EDGES one behind the other", x.splice(0), 100);
        x.from(0, 7, 99999);
        x.from(1, 7, 99999);
        Check.due("at the end of EDGES", x.splice(0), 100);
        Check.due("no SHOT behind the last", x.splice(1), NO);
        Check.due("the last splice of all", shots(16, 1).splice(14), 100);
    }

    private static void holdAtFirst() {
        Doc.terms(5, "A splice has HOLD 100 at first (LOADED anew, too);");
        PrinterLights x = shots(16, 1);
        for (int k = 0; k < 15; k++) {
            Check.due("at first, " + k, x.splice(k), 100);
        }
        run(x, 2);
        Check.due("worn", x.splice(14), 92);
        x.load();
        for (int k = 0; k < 15; k++) {
            Check.due("LOADED anew, " + k, x.splice(k), 100);
        }
        x.rule(3, 20);
        run(x, 5);
        Check.due("OPEN", x.splice(0), 0);
        x.load();
        Check.due("LOADED anew, no longer OPEN", x.splice(0), 100);
        Check.due("LOADED anew, none OPEN", x.count(4), 0);
        Check.due("LOADED anew, it goes through", x.run(0), 16);
    }

    private static void wear() {
        Doc.terms(5, "each time THE LIST goes through a BATH it is less by WEAR (1 to 20; 4 at first)");
        Check.range("WEAR", 1, 20, BAD, v -> fresh().rule(3, v));
        Check.due("at first", fresh().rule(3, 20), 4);
        PrinterLights x = shots(2, 1);
        int[][] rows = {{4, 96}, {1, 95}, {20, 75}};
        for (int[] row : rows) {
            x.rule(3, row[0]);
            x.run(1);
            Check.due("by WEAR " + row[0], x.splice(0), row[1]);
        }
        x.rule(3, 2);
        Check.due("a WEAR that is told wears nothing", x.splice(0), 75);
    }

    private static void wearByLight() {
        Doc.terms(5, "and, if the LIGHT of the last frame ahead and the first behind are off by 10 POINTS or more"
            + " in a COLOUR, 2 more.");
        String[] next = {"20,20,20", "29,29,29", "11,11,11", "30,20,20", "20,30,20", "20,20,30", "10,20,20", "20,20,10",
            "50,50,50"};
        int[] due = {96, 96, 96, 94, 94, 94, 94, 94, 94};
        for (int i = 0; i < next.length; i++) {
            PrinterLights x = Check.loaded("s0,3,20,20,20;s1,3," + next[i] + ";");
            x.run(0);
            Check.due("from 20,20,20 to " + next[i], x.splice(0), due[i]);
        }
        String[] texts = {"s0,3,20,20,20;f1,29,20,20;s1,3,39,20,20;", "s0,3,20,20,20;f1,29,20,20;s1,3,38,20,20;",
            "s0,3,20,20,20;s1,3,35,20,20;e0,1,6;", "s0,3,20,20,20;s1,3,35,20,20;e0,1,5;",
            "s0,3,20,20,20;s1,3,35,20,20;e1,2,6;", "s0,3,20,20,20;e0,2,19;s1,3,20,20,20;",
            "s0,3,20,20,20;e2,1,19;s1,3,20,20,20;"};
        int[] dueOfTexts = {94, 96, 96, 94, 94, 96, 94};
        for (int i = 0; i < texts.length; i++) {
            PrinterLights x = Check.loaded(texts[i]);
            x.run(0);
            Check.due(texts[i], x.splice(0), dueOfTexts[i]);
        }
    }

    private static void opens() {
        Doc.terms(5, "It OPENS where HOLD comes to 0: then the run ends at that splice.");
        int[][] wearAndRuns = {{1, 100}, {4, 25}, {20, 5}};
        for (int[] row : wearAndRuns) {
            PrinterLights x = shots(3, 1);
            x.rule(3, row[0]);
            run(x, row[1] - 1);
            Check.due("not yet, WEAR " + row[0], x.splice(0), row[0]);
            Check.due("not yet OPEN, WEAR " + row[0], x.count(4), 0);
            Check.due("OPENS, WEAR " + row[0], x.run(0), 1);
            Check.due("HOLD 0, WEAR " + row[0], x.splice(0), 0);
            Check.due("OPEN, WEAR " + row[0], x.count(4), 1);
            Check.due("the one behind it is not worn, WEAR " + row[0], x.splice(1), row[0]);
        }
        PrinterLights y = shots(2, 1);
        y.rule(3, 3);
        run(y, 33);
        Check.due("HOLD 1", y.splice(0), 1);
        Check.due("by more than there is", y.run(0), 1);
        Check.due("not below 0", y.splice(0), 0);
        PrinterLights z = Check.loaded("s0,1,1,1,1;s1,1,11,1,1;");
        z.rule(3, 18);
        run(z, 4);
        Check.due("by LIGHT, too: HOLD 20", z.splice(0), 20);
        Check.due("by LIGHT, too: OPENS", z.run(0), 1);
    }

    private static void wornFromTheFirst() {
        Doc.terms(5, "A RUN of THE LIST through a BATH: splices are worn from the first one on, till one OPENS;");
        for (int k = 0; k < 15; k++) {
            PrinterLights x = shots(16, 1);
            x.rule(3, 20);
            joinUpTo(x, k);
            run(x, 4);
            Check.due("the first one, " + k, x.splice(k), 20);
            Check.due("till it OPENS, " + k, x.run(0), k + 1);
            Check.due("HOLD 0, " + k, x.splice(k), 0);
            for (int behind = k + 1; behind < 15; behind++) {
                Check.due("those behind are not worn, " + behind, x.splice(behind), 20);
            }
        }
        PrinterLights y = shots(16, 1);
        joinUpTo(y, 15);
        y.rule(3, 20);
        run(y, 10);
        Check.due("without a splice none OPENS", y.run(0), 16);
    }

    /** SHOTS 0 to last come one just behind the other from REEL 0. */
    private static void joinUpTo(PrinterLights x, int last) {
        x.reel(0, 0, 2000);
        for (int shot = 0; shot <= last; shot++) {
            x.from(shot, 0, shot);
        }
    }

    private static void feetOfARun() {
        Doc.terms(5, "FEET are all frames that went through (those ahead of it, else all) by 16, rounded up.");
        int[][] rows = {{1, 1}, {15, 1}, {16, 1}, {17, 2}, {32, 2}, {33, 3}, {400, 25}};
        for (int[] row : rows) {
            PrinterLights x = shots(1, row[0]);
            x.run(1);
            Check.due("frames " + row[0], x.bathTold(1, 2), row[1]);
            PrinterLights y = Check.loaded("s0," + row[0] + ",1,1,1;s1,400,1,1,1;");
            y.rule(3, 20);
            run(y, 4);
            Check.due("all, by four runs", y.bathTold(0, 2), 4 * ((row[0] + 400 + 15) / 16));
            Check.due("OPENS", y.run(1), 1);
            Check.due("those ahead of it alone, " + row[0], y.bathTold(1, 2), row[1]);
        }
        PrinterLights z = shots(16, 400);
        Check.due("the most", z.run(1), 16);
        Check.due("the most", z.bathTold(1, 2), 400);
        Check.due("the BATH tires by them", z.bathTold(1, 0), 780);
        PrinterLights c = Check.loaded("s0,16,1,1,1;c999;");
        c.run(0);
        Check.due("COPIES do not count", c.bathTold(0, 2), 1);
    }

    private static void splicedByHand() {
        Doc.terms(5, "An OPEN one is SPLICED by hand: HOLD 80.");
        PrinterLights x = shots(2, 1);
        x.rule(3, 20);
        run(x, 5);
        x.mend();
        Check.due("HOLD 80", x.splice(0), 80);
        run(x, 3);
        Check.due("worn from there", x.splice(0), 20);
        Check.due("OPENS again", x.run(0), 1);
        x.mend();
        Check.due("HOLD 80 again", x.splice(0), 80);
    }

    // ---- promises 24 to 29

    private static void reelAnew() {
        Doc.promise(24, "A REEL is told (anew: it is not LOST): 0.");
        PrinterLights x = fresh();
        Check.due("told", x.reel(7, 5, 5), 0);
        Check.due("one", x.count(2), 1);
        x.lose(7, true);
        Check.due("anew", x.reel(7, 5, 5), 0);
        Check.due("still one", x.count(2), 1);
        Check.due("not LOST", x.lose(7, false), 0);
        PrinterLights y = shots(1, 2);
        y.reel(0, 5, 2);
        y.from(0, 0, 5);
        Check.due("on it", y.missing(), 0);
        y.reel(0, 6, 2);
        Check.due("told anew, not on it", y.missing(), 1);
        Check.due("where the SHOT comes from stays", y.edge(0), 5);
    }

    private static void reelBad() {
        Doc.promise(24, "BAD (also EDGES beyond 100000).");
        Check.range("reel", 0, 7, BAD, r -> fresh().reel(r, 100000, 1));
        int[][] taken = {{100000, 1}, {99999, 2}, {98001, 2000}};
        for (int[] row : taken) {
            Check.due("up to 100000 by " + row[1], fresh().reel(0, row[0], row[1]), 0);
            Check.due("beyond 100000 by " + row[1], fresh().reel(0, row[0] + 1, row[1]), BAD);
            Check.due("beyond 100000 by one more frame", fresh().reel(0, row[0], row[1] + 1), BAD);
        }
        Check.due("wraps around", fresh().reel(0, Integer.MAX_VALUE, 2), BAD);
        Check.due("wraps around", fresh().reel(0, 2, Integer.MAX_VALUE), BAD);
        PrinterLights x = fresh();
        Check.due("2001 frames", x.reel(0, 0, 2001), BAD);
        Check.due("0 frames", x.reel(0, 0, 0), BAD);
        Check.due("beyond 100000", x.reel(0, 100000, 2), BAD);
        Check.due("nothing changes: not told", x.count(2), 0);
        x.reel(0, 0, 1);
        x.lose(0, true);
        Check.due("beyond 100000", x.reel(0, 100000, 2), BAD);
        Check.due("nothing changes: LOST", x.lose(0, true), 1);
    }

    private static void loseRefused() {
        Doc.promise(25, "A REEL is LOST, or not: what was (1 LOST). BAD; NO: it was not told.");
        Check.range("lose", 0, 7, BAD, r -> told(8).lose(r, true));
        Check.range("find", 0, 7, BAD, r -> told(8).lose(r, false));
        for (int reel = 0; reel < 8; reel++) {
            Check.due("not told " + reel, fresh().lose(reel, true), NO);
            Check.due("not told " + reel, fresh().lose(reel, false), NO);
        }
        PrinterLights x = told(7);
        Check.due("the last one told", x.lose(6, true), 0);
        Check.due("not told", x.lose(7, true), NO);
        Check.due("NO changes nothing", x.count(2), 7);
        x.reel(7, 0, 1);
        Check.due("NO changed nothing", x.lose(7, true), 0);
        Check.due("LOST again", x.lose(7, true), 1);
        Check.due("not LOST", x.lose(7, false), 1);
        Check.due("not LOST again", x.lose(7, false), 0);
        Check.due("the other one", x.lose(6, false), 1);
    }

    private static void fromRefused() {
        Doc.promise(26, "A SHOT comes from a REEL (-1: none), from an EDGE on: 0. BAD; NO: the REEL was not told.");
        Check.range("shot", 0, 15, BAD, s -> told(8).from(s, 7, 0));
        Check.range("reel", -1, 7, BAD, r -> told(8).from(15, r, 0));
        Check.range("edge", 0, 100000, BAD, e -> told(8).from(15, 7, e));
        for (int reel = 0; reel < 8; reel++) {
            Check.due("not told " + reel, fresh().from(0, reel, 0), NO);
        }
        Check.due("none is always there", fresh().from(0, -1, 0), 0);
        Check.due("BAD ahead of NO", fresh().from(16, 0, 0), BAD);
        Check.due("BAD ahead of NO", fresh().from(0, 0, 100001), BAD);
        PrinterLights x = twoShots();
        Check.due("from the REEL", x.from(0, 7, 33), 0);
        Check.due("not told", x.from(0, 1, 44), NO);
        Check.due("BAD", x.from(0, 7, -1), BAD);
        Check.due("nothing changes", x.edge(0), 33);
        Check.due("none", x.from(0, -1, 100000), 0);
        Check.due("none", x.edge(0), NONE);
        Check.due("it need not be on the REEL", x.from(0, 7, 9), 0);
    }

    private static void edgeRefused() {
        Doc.promise(27, "THE EDGE of a frame. NONE: its SHOT comes from none; BAD; NO.");
        PrinterLights x = twoShots();
        x.from(1, 7, 10);
        int[] due = {NONE, NONE, 10, 11, NO};
        for (int frame = 0; frame < due.length; frame++) {
            Check.due("frame " + frame, x.edge(frame), due[frame]);
        }
        Check.due("the farthest frame", x.edge(Integer.MAX_VALUE), NO);
        Check.due("frame -1", x.edge(-1), BAD);
        Check.due("the farthest frame", x.edge(Integer.MIN_VALUE), BAD);
        Check.due("no LIST", fresh().edge(0), NO);
        Check.due("BAD ahead of no LIST", fresh().edge(-1), BAD);
    }

    private static void missingRefused() {
        Doc.promise(28, "MISSING SHOTS of THE LIST, as bits. NO.");
        Check.due("no LIST", fresh().missing(), NO);
        Check.due("one SHOT", shots(1, 1).missing(), 1);
        Check.due("all of sixteen", shots(16, 1).missing(), 0xFFFF);
        PrinterLights x = shots(16, 1);
        joinUpTo(x, 14);
        Check.due("the last alone", x.missing(), 0x8000);
        joinUpTo(x, 15);
        Check.due("none", x.missing(), 0);
        x.from(0, -1, 0);
        Check.due("the first alone", x.missing(), 1);
        Check.load(x, Check.shots(1, 1));
        x.from(15, -1, 0);
        Check.due("SHOTS that are not in THE LIST do not count", x.missing(), 1);
    }

    private static void whereRefused() {
        Doc.promise(29, "WHERE. NONE; BAD; NO: no LIST.");
        Check.range("reel", 0, 7, BAD, r -> twoShots().where(r, 0));
        Check.range("edge", 0, 100000, BAD, e -> twoShots().where(7, e));
        Check.due("NONE", twoShots().where(0, 10), NONE);
        Check.due("not told", twoShots().where(1, 10), NONE);
        Check.due("no LIST", fresh().where(0, 0), NO);
        Check.due("no LIST, but a SHOT from there", shotWithoutList().where(0, 0), NO);
        Check.due("BAD ahead of no LIST", fresh().where(8, 0), BAD);
        Check.due("BAD ahead of no LIST", fresh().where(0, -1), BAD);
        PrinterLights x = shotWithoutList();
        Check.load(x, Check.shots(1, 1));
        Check.due("the first frame", x.where(0, 0), 0);
        Check.due("behind the last", x.where(0, 1), NONE);
    }

    private static PrinterLights shotWithoutList() {
        PrinterLights x = told(1);
        x.from(0, 0, 0);
        return x;
    }

    // ---- promises 30 to 32

    private static void spliceRefused() {
        Doc.promise(30, "HOLD of the splice behind SHOT k. NONE: there is none; BAD (0 to 14);"
            + " NO: no LIST, no SHOT behind it.");
        Check.range("k", 0, 14, BAD, k -> shots(16, 1).splice(k));
        for (int k = 0; k <= 14; k++) {
            Check.due("no LIST " + k, fresh().splice(k), NO);
            Check.due("no SHOT behind " + k, shots(k + 1, 1).splice(k), NO);
            Check.due("a SHOT behind " + k, shots(k + 2, 1).splice(k), 100);
        }
        Check.due("BAD ahead of no LIST", fresh().splice(15), BAD);
        Check.due("BAD ahead of no LIST", fresh().splice(-1), BAD);
        PrinterLights x = shots(16, 1);
        joinUpTo(x, 15);
        Check.due("there is none", x.splice(0), NONE);
        Check.due("there is none", x.splice(14), NONE);
        Check.load(x, Check.shots(15, 1));
        Check.due("no SHOT behind, ahead of NONE", x.splice(14), NO);
        Check.due("there is none", x.splice(13), NONE);
    }

    private static void runRefused() {
        Doc.promise(31, "A RUN through a BATH: SHOTS that went through. BAD; NO: no LIST, a splice is OPEN.");
        Check.range("bath", 0, 1, BAD, b -> shots(1, 1).run(b));
        Check.due("no LIST", fresh().run(0), NO);
        Check.due("BAD ahead of no LIST", fresh().run(2), BAD);
        Check.due("the fewest SHOTS", shots(1, 1).run(1), 1);
        Check.due("the most SHOTS", shots(16, 1).run(1), 16);
        PrinterLights x = shots(3, 16);
        x.rule(3, 20);
        run(x, 5);
        Check.due("a splice is OPEN", x.run(0), NO);
        Check.due("a splice is OPEN, another BATH", x.run(1), NO);
        Check.due("BAD ahead of it", x.run(-1), BAD);
        Check.due("nothing changes: FEET", x.bathTold(0, 2), 4 * 3 + 1);
        Check.due("nothing changes: FEET of the other", x.bathTold(1, 2), 0);
        Check.due("nothing changes: the other splice", x.splice(1), 20);
        Check.due("nothing changes: RUNS", x.count(6), 5);
        x.mend();
        Check.due("mended, till the other OPENS", x.run(0), 2);
        Check.due("RUNS", x.count(6), 6);
    }

    private static void mendCounts() {
        Doc.promise(32, "OPEN splices are SPLICED: how many.");
        Check.due("no LIST", fresh().mend(), 0);
        Check.due("no splice", shots(1, 1).mend(), 0);
        PrinterLights x = shots(16, 1);
        Check.due("none OPEN", x.mend(), 0);
        Check.due("HOLD stays", x.splice(0), 100);
        x.rule(3, 20);
        run(x, 4);
        Check.due("HOLD 20 is not OPEN", x.mend(), 0);
        Check.due("HOLD 20 stays", x.splice(0), 20);
        run(x, 1);
        Check.due("one", x.mend(), 1);
        Check.due("none then", x.mend(), 0);
        Check.due("HOLD 80 stays", x.splice(0), 80);
        Check.due("the others stay", x.splice(14), 20);
        joinUpTo(x, 14);
        Check.due("the last one OPENS", x.run(0), 15);
        Check.due("the last one", x.mend(), 1);
        Check.due("the last one", x.splice(14), 80);
    }
}
