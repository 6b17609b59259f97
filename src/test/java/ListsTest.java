/** Promises 10 to 17. */
public final class ListsTest {
    public static void main(String[] args) {
        write();
        clear();
        faultOfShots();
        faultOfFades();
        faultOfEffects();
        faultOfCopiesAndSigns();
        load();
        light();
        shotOf();
        soon();
        soonWhereAnyChangeIsLet();
        list();
        Check.end();
    }

    private static void write() {
        PrinterLights x = new PrinterLights();
        Check.due("10: n 0", x.write(0, 1), PrinterLights.BAD);
        Check.due("10: n 9", x.write(9, 1), PrinterLights.BAD);
        Check.due("10: n -1", x.write(-1, 1), PrinterLights.BAD);
        // s0,1,2,3 and ,4; of which the higher bytes of v do not count
        Check.due("10: eight bytes", x.write(8, 0x73302C312C322C33L), 8);
        Check.due("10: three of eight bytes", x.write(3, 0x63313B63312C343BL), 11);
        Check.due("10: as written", x.load(), 1);
        Check.due("10: as written", x.light(0, 2), 4);
        PrinterLights y = new PrinterLights();
        for (int i = 1; i <= 49; i++) {
            Check.due("10: longer", y.write(8, -1L), 8 * i);
        }
        Check.due("10: 399", y.write(7, 0), 399);
        Check.due("10: 401", y.write(2, 0), PrinterLights.FULL);
        Check.due("10: BAD ahead of FULL", y.write(9, 0), PrinterLights.BAD);
        Check.due("10: 400", y.write(1, 0), 400);
        Check.due("10: FULL", y.write(1, 0), PrinterLights.FULL);
        Check.due("10: how long", y.count(0), 400);
        Check.due("10: bytes that are no signs", y.fault(), 0);
    }

    private static void clear() {
        PrinterLights x = new PrinterLights();
        Check.due("11: empty", x.clear(), 0);
        Check.write(x, "c1;");
        Check.due("11: three", x.clear(), 3);
        Check.due("11: then none", x.count(0), 0);
        Check.due("11: again", x.clear(), 0);
        Check.due("11: the LIST stays", Check.load(x, "s0,3,1,1,1;"), 3);
        x.clear();
        Check.due("11: the LIST stays", x.list(1), 3);
    }

    private static void none(String text) {
        Check.due("12: " + text, Check.fault(text), PrinterLights.NONE);
    }

    /** The text behind | is the first ITEM that is not so. */
    private static void faultAt(String text) {
        Check.due("12: " + text, Check.fault(text.replace("|", "")), text.indexOf('|'));
    }

    private static void faultOfShots() {
        none("");
        none("s0,1,1,1,1;");
        none("s0,400,50,50,50;");
        none("s0000,0001,0050,01,001;s01,1,1,1,1;");
        faultAt("|s1,1,1,1,1;");
        faultAt("s0,1,1,1,1;|s0,1,1,1,1;");
        faultAt("s0,1,1,1,1;|s2,1,1,1,1;");
        faultAt("|s0,0,1,1,1;");
        faultAt("|s0,401,1,1,1;");
        faultAt("|s0,1,0,1,1;");
        faultAt("|s0,1,51,1,1;");
        faultAt("|s0,1,1,0,1;");
        faultAt("|s0,1,1,51,1;");
        faultAt("|s0,1,1,1,0;");
        faultAt("|s0,1,1,1,51;");
        faultAt("|s0,1,1,1;");
        faultAt("|s0,1,1,1,1,1;");
        faultAt("|s0,1,1,1,1,;");
        faultAt("|s00000,1,1,1,1;");
        faultAt("|s0,00001,1,1,1;");
        none(Check.sixteenShots(1));
        faultAt(Check.sixteenShots(1) + "|s16,1,1,1,1;");
    }

    private static void faultOfFades() {
        none("s0,9,1,1,1;f1,50,50,50;");
        none("s0,9,1,1,1;f9,1,1,1;s1,1,1,1,1;f1,1,1,1;");
        faultAt("|f1,1,1,1;");
        faultAt("s0,9,1,1,1;|f0,1,1,1;");
        faultAt("s0,9,1,1,1;|f10,1,1,1;");
        faultAt("s0,9,1,1,1;f3,1,1,1;|f2,1,1,1;");
        faultAt("s0,9,1,1,1;|f1,0,1,1;");
        faultAt("s0,9,1,1,1;|f1,1,51,1;");
        faultAt("s0,9,1,1,1;|f1,1,1,0;");
        faultAt("s0,9,1,1,1;|f1,1,1,51;");
        faultAt("s0,9,1,1,1;|f1,1,1;");
        faultAt("s0,9,1,1,1;|f1,1,1,1,1;");
        faultAt("s0,9,1,1,1;s1,2,1,1,1;|f3,1,1,1;");
    }

    private static void faultOfEffects() {
        none("s0,9,1,1,1;e0,9,1;e8,1,40;e0,1,1;e0,1,1;s1,1,1,1,1;e0,1,1;");
        none("s0,9,1,1,1;e0,9,1;f1,1,1,1;");
        faultAt("|e0,1,1;");
        faultAt("s0,9,1,1,1;|e0,0,1;");
        faultAt("s0,9,1,1,1;|e0,10,1;");
        faultAt("s0,9,1,1,1;|e9,1,1;");
        faultAt("s0,9,1,1,1;|e9,0,1;");
        faultAt("s0,9,1,1,1;|e8,2,1;");
        faultAt("s0,9,1,1,1;|e0,1,0;");
        faultAt("s0,9,1,1,1;|e0,1,41;");
        faultAt("s0,9,1,1,1;|e0,1;");
        faultAt("s0,9,1,1,1;|e0,1,1,1;");
        faultAt("s0,9,1,1,1;e0,1,1;e0,1,1;e0,1,1;e0,1,1;|e0,1,1;");
    }

    private static void faultOfCopiesAndSigns() {
        none("c1;");
        none("c999;");
        none("s0,1,1,1,1;c0001;s1,1,1,1,1;");
        faultAt("|c0;");
        faultAt("|c1000;");
        faultAt("|c1,1;");
        faultAt("|c;");
        faultAt("c1;|c1;");
        faultAt("|;");
        faultAt("c1;|;");
        faultAt("|1;");
        faultAt("|C1;");
        faultAt("|c-1;");
        faultAt("|c 1;");
        faultAt("|c1 ;");
        faultAt("|,1;");
        faultAt("|c,1;");
        faultAt("|s,1,1,1,1;");
        faultAt("s0,9,1,1,1;|e,1,1;");
        faultAt("s0,9,1,1,1;e0,1,1;|e,1,1;");
        faultAt("|x1;");
        faultAt("|cc1;");
        faultAt("c1;|s0,1,,1,1;");
        faultAt("c1;|s");
        faultAt("c1;|s0,1,1,1,1");
        faultAt("|s0,1,1,1,1");
        faultAt("|x;s");
        faultAt("|c:;");
        faultAt("|c/;");
    }

    private static void load() {
        PrinterLights x = new PrinterLights();
        Check.due("13: no SHOT", Check.load(x, "c5;"), PrinterLights.NO);
        Check.due("13: a FAULT", Check.load(x, "s0,1,1,1,1;s"), PrinterLights.NO);
        Check.due("13: still no LIST", x.list(0), PrinterLights.NO);
        Check.due("13: frames", Check.load(x, "s0,400,1,1,1;s1,7,2,2,2;c4;"), 407);
        Check.due("13: the TEXT stays", x.count(0), 27);
        Check.due("13: a FAULT changes nothing", Check.load(x, "s0,5,1,1,1;c2;|;"), PrinterLights.NO);
        Check.due("13: frames as they were", x.list(1), 407);
        Check.due("13: COPIES as they were", x.list(2), 4);
        Check.due("13: fault changes nothing", x.fault(), 14);
        Check.due("13: frames as they were", x.list(1), 407);
        x.shot(1, 2, 0, 11);
        x.shot(1, 2, 1, 12);
        x.reel(0, 0, 2000);
        x.from(1, 0, 13);
        Check.due("13: anew", Check.load(x, "s0,2,9,9,9;s1,3,9,9,9;"), 5);
        Check.due("13: COPIES anew", x.list(2), 1);
        Check.due("13: FADES, EFFECTS anew", x.light(4, 0), 9);
        Check.due("13: densities stay", x.shot(1, 2, 0, 11), 11);
        Check.due("13: AIMS stay", x.shot(1, 2, 1, 12), 12);
        Check.due("13: where they come from stays", x.edge(2), 13);
        Check.due("13: the most frames", Check.load(x, Check.sixteenShots(400)), 6400);
        Check.due("13: the last of them", x.shotOf(6399), 15);
        Check.due("13: old FADES, EFFECTS are gone", fadesGone(), 5);
    }

    private static int fadesGone() {
        PrinterLights x = new PrinterLights();
        Check.load(x, "s0,2,9,9,9;f2,1,1,1;e0,2,5;");
        Check.load(x, "s0,2,5,5,5;");
        return x.light(1, 0);
    }

    private static void light() {
        PrinterLights x = new PrinterLights();
        Check.due("14: no LIST", x.light(0, 0), PrinterLights.NO);
        Check.due("14: no LIST, BAD ahead of it", x.light(0, 3), PrinterLights.BAD);
        Check.load(x, "s0,6,10,40,7;f4,20,9,7;e4,2,3;e5,1,40;s1,1,50,49,48;");
        int[][] due = {{10, 40, 7}, {10, 40, 7}, {12, 33, 7}, {15, 25, 7}, {14, 14, 4}, {1, 1, 1}, {50, 49, 48}};
        for (int frame = 0; frame < due.length; frame++) {
            for (int colour = 0; colour < 3; colour++) {
                Check.due("14: light of " + frame + " " + colour, x.light(frame, colour), due[frame][colour]);
            }
        }
        Check.due("14: no such frame", x.light(7, 0), PrinterLights.NO);
        Check.due("14: no such frame", x.light(Integer.MAX_VALUE, 0), PrinterLights.NO);
        Check.due("14: frame -1", x.light(-1, 0), PrinterLights.BAD);
        Check.due("14: colour 3", x.light(0, 3), PrinterLights.BAD);
        Check.due("14: colour -1", x.light(0, -1), PrinterLights.BAD);
        Check.due("14: BAD ahead of NO", x.light(7, 3), PrinterLights.BAD);
        Check.load(x, "s0,3,10,10,10;e0,3,4;f3,4,40,10;");
        Check.due("14: an EFFECT behind what a FADE does, told ahead of it", x.light(2, 0), 1);
        Check.due("14: an EFFECT behind what a FADE does", x.light(2, 1), 36);
    }

    private static void shotOf() {
        PrinterLights x = new PrinterLights();
        Check.due("15: no LIST", x.shotOf(0), PrinterLights.NO);
        Check.due("15: BAD", x.shotOf(-1), PrinterLights.BAD);
        Check.load(x, "s0,3,1,1,1;s1,1,1,1,1;s2,2,1,1,1;");
        int[] due = {0, 0, 0, 1, 2, 2, PrinterLights.NO};
        for (int frame = 0; frame < due.length; frame++) {
            Check.due("15: " + frame, x.shotOf(frame), due[frame]);
        }
        Check.due("15: BAD", x.shotOf(-1), PrinterLights.BAD);
        Check.due("15: BAD", x.shotOf(Integer.MIN_VALUE), PrinterLights.BAD);
    }

    private static void soonIs(String text, int... frames) {
        PrinterLights x = new PrinterLights();
        Check.load(x, text);
        Check.due("16: how many of " + text, x.soon(-1), frames.length);
        for (int i = 0; i < frames.length; i++) {
            Check.due("16: " + i + " of " + text, x.soon(i), frames[i]);
        }
        Check.due("16: NONE of " + text, x.soon(frames.length), PrinterLights.NONE);
    }

    private static void soon() {
        PrinterLights x = new PrinterLights();
        Check.due("16: no LIST", x.soon(-1), PrinterLights.NO);
        Check.due("16: BAD ahead of NO", x.soon(-2), PrinterLights.BAD);
        Check.load(x, "s0,3,1,1,1;s1,6,2,2,2;s2,5,1,1,1;s3,1,2,1,1;s4,1,1,1,1;");
        Check.due("16: how many", x.soon(-1), 2);
        Check.due("16: five behind", x.soon(0), 14);
        Check.due("16: it counts as a change all the same", x.soon(1), 15);
        Check.due("16: NONE", x.soon(2), PrinterLights.NONE);
        Check.due("16: NONE", x.soon(Integer.MAX_VALUE), PrinterLights.NONE);
        Check.due("16: BAD", x.soon(-2), PrinterLights.BAD);
        x.rule(0, 7);
        Check.due("16: another WAIT", x.soon(0), 9);
        x.rule(0, 1);
        Check.due("16: WAIT 1", x.soon(-1), 0);
        x.rule(0, 48);
        Check.due("16: the first change is let", x.soon(0), 9);
        soonIs("s0,3,1,1,1;s1,1,1,1,1;s2,3,2,1,1;s3,1,2,1,1;s4,1,2,2,1;s5,1,2,2,2;", 8, 9);
    }

    private static void soonWhereAnyChangeIsLet() {
        soonIs("s0,3,1,1,1;s1,1,2,2,2;f1,9,9,9;s2,1,9,9,9;s3,1,8,9,9;", 5);
        soonIs("s0,3,1,1,1;s1,2,2,2,2;f1,9,9,9;s2,1,8,9,9;", 5);
        soonIs("s0,3,1,1,1;s1,2,2,2,2;s2,3,9,9,9;e0,1,2;", new int[0]);
        soonIs("s0,3,1,1,1;s1,2,2,2,2;s2,3,9,9,9;e1,1,2;", 5);
        soonIs("s0,3,1,1,1;s1,2,9,9,9;e1,1,3;s2,3,2,2,2;", new int[0]);
        soonIs("s0,3,1,1,1;s1,2,9,9,9;e0,1,3;s2,3,2,2,2;", 5);
        soonIs("s0,9,9,9,9;e1,2,1;e4,3,1;s1,9,2,2,2;", 9);
        soonIs("s0,12,9,9,9;e1,2,1;e4,2,1;s1,9,2,2,2;", new int[0]);
    }

    private static void list() {
        PrinterLights x = new PrinterLights();
        Check.due("17: no LIST", x.list(0), PrinterLights.NO);
        Check.due("17: BAD ahead of NO", x.list(5), PrinterLights.BAD);
        Check.load(x, "s0,10,9,9,9;f2,9,9,8;e3,2,1;s1,6,9,9,8;e0,3,8;c7;");
        Check.due("17: SHOTS", x.list(0), 2);
        Check.due("17: frames", x.list(1), 16);
        Check.due("17: COPIES", x.list(2), 7);
        Check.due("17: changes", x.list(3), 5);
        Check.due("17: FEET", x.list(4), 7);
        Check.due("17: BAD", x.list(-1), PrinterLights.BAD);
        Check.due("17: BAD", x.list(5), PrinterLights.BAD);
        Check.load(x, "s0,17,9,9,9;");
        Check.due("17: COPIES that were not told", x.list(2), 1);
        Check.due("17: FEET, rounded up", x.list(4), 2);
        Check.due("17: no change", x.list(3), 0);
        Check.load(x, "c999;s0,400,9,9,9;s1,1,9,9,9;");
        Check.due("17: FEET, each rounded up", x.list(4), 999 * 26);
        Check.due("17: no change from SHOT to SHOT", x.list(3), 0);
    }
}
