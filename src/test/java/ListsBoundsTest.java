/** The boundaries that the document names in part 2 of its Terms and in the promises 10 to 17, sentence by sentence. */
public final class ListsBoundsTest {
    private static final int BAD = PrinterLights.BAD, NO = PrinterLights.NO, FULL = PrinterLights.FULL;
    private static final int NONE = PrinterLights.NONE;
    /** 400 bytes without FAULT: 14 SHOTS of 26 bytes, then three ITEMS of 12. */
    private static final String LONGEST = longest();

    public static void main(String[] args) {
        textLength();
        itemEnds();
        figures();
        parted();
        shotNumbers();
        shotFrames();
        shotLights();
        fadeFrames();
        fadeLights();
        effectFrames();
        effectLess();
        effectsOfAShot();
        effectsBehindFades();
        copies();
        firstFault();
        mayBeLoaded();
        framesNumbered();
        waitFrames();
        anyChangeIsLet();
        countsAsOne();
        writeBytes();
        writeRefused();
        clearText();
        faultNone();
        loadStays();
        loadNo();
        lightBad();
        lightNo();
        shotOfRefused();
        soonNumbers();
        listCopies();
        listFeet();
        listRefused();
        Doc.termsAreWhole(2);
        Doc.promisesAreWhole(10, 17);
        Check.end();
    }

    private static String longest() {
        StringBuilder text = new StringBuilder();
        for (int shot = 0; shot < 14; shot++) {
            text.append(String.format("s%04d,0001,0001,0001,0001;", shot));
        }
        return text.append("s14,1,1,1,1;s15,1,1,1,1;e0000,1,001;").toString();
    }

    private static PrinterLights fresh() {
        return new PrinterLights();
    }

    private static PrinterLights with(int bytes) {
        PrinterLights x = fresh();
        Check.write(x, "x".repeat(bytes));
        return x;
    }

    private static void lightsAre(String text, int... due) {
        PrinterLights x = Check.loaded(text);
        for (int frame = 0; frame < due.length; frame++) {
            Check.due("LIGHT " + frame + " of " + text, x.light(frame, 0), due[frame]);
        }
        Check.due("no LIGHT behind the last of " + text, x.light(due.length, 0), NO);
    }

    private static void soonIs(int wait, String text, int... frames) {
        PrinterLights x = Check.loaded(text);
        x.rule(0, wait);
        Check.due("how many of " + text, x.soon(-1), frames.length);
        for (int i = 0; i < frames.length; i++) {
            Check.due(i + " of " + text, x.soon(i), frames[i]);
        }
        Check.due("behind the last of " + text, x.soon(frames.length), NONE);
    }

    // ---- Terms, part 2: texts

    private static void textLength() {
        Doc.terms(2, "A LIST is a TEXT of bytes (400 at most)");
        Check.due("400 are told", LONGEST.length(), 400);
        PrinterLights x = Check.loaded(LONGEST);
        Check.due("400", x.count(0), 400);
        Check.due("no FAULT in 400", x.fault(), NONE);
        Check.due("400, all read", x.list(0), 16);
        Check.due("401", x.write(1, ';'), FULL);
        Check.due("still 400", x.count(0), 400);
        Check.due("still without FAULT", x.load(), 16);
        Check.due("its last byte is read", with(400).fault(), 0);
    }

    private static void itemEnds() {
        Doc.terms(2, "ITEMS one behind the other, each ending with ;");
        Check.sound("c1;s0,1,1,1,1;");
        Check.faulty("|c1");
        Check.faulty("|c1 ;");
        Check.faulty("c1;|s0,1,1,1,1");
        Check.faulty("|c1s0,1,1,1,1;");
        Check.faulty("|;");
        Check.faulty("c1;|;s0,1,1,1,1;");
        Check.faulty("c1;|;");
        Check.faulty("|c1" + (char) (';' + 128));
        Check.faulty("|" + (char) ('c' + 128) + "1;");
    }

    private static void figures() {
        Doc.terms(2, "with numbers (one to four figures)");
        Check.sound("c1;");
        Check.sound("c0001;");
        Check.faulty("|c;");
        Check.faulty("|c00001;");
        Check.faulty("|c0000;");
        Check.faulty("|c9999;");
        Check.faulty("|c99999;");
        Check.faulty("|c4294967297;");
        Check.faulty("|c18446744073709551617;");
        Check.sound("s0000,0400,0050,0001,0050;f0400,0001,0050,0001;e0399,0001,0040;");
        Check.faulty("|s00000,1,1,1,1;");
        Check.faulty("|s0,00001,1,1,1;");
        Check.faulty("|s0,1,1,1,00001;");
        Check.faulty("|s,1,1,1,1;");
        Check.faulty("|s0,1,,1,1;");
        Check.faulty("|s0,1,1,1,;");
        Check.faulty("|c+1;");
        Check.faulty("|c-1;");
        Check.faulty("|c/;");
        Check.faulty("|c:;");
        Check.faulty("|c" + (char) ('1' + 128) + ";");
    }

    private static void parted() {
        Doc.terms(2, "parted by ,");
        Check.faulty("|s0,1,1,1;");
        Check.faulty("|s0,1,1,1,1,1;");
        Check.faulty("|s0,1,1,1,1,;");
        Check.faulty("|s,0,1,1,1,1;");
        Check.faulty("|s0.1.1.1.1;");
        Check.faulty("|s0 ,1,1,1,1;");
        Check.faulty("|s0,1,1,1,1,1,1,1,1,1,1,1,1;");
        Check.faulty("s0,9,1,1,1;|f1,1,1;");
        Check.faulty("s0,9,1,1,1;|f1,1,1,1,1;");
        Check.faulty("s0,9,1,1,1;|e0,1;");
        Check.faulty("s0,9,1,1,1;|e0,1,1,1;");
        Check.faulty("|c1,1;");
    }

    private static void shotNumbers() {
        Doc.terms(2, "SHOT N (0 to 15, as they come: 0, 1, 2, ..)");
        Check.sound(Check.shots(1, 1));
        Check.sound(Check.shots(16, 1));
        Check.faulty(Check.shots(16, 1) + "|s16,1,1,1,1;");
        Check.faulty(Check.shots(16, 1) + "|s0,1,1,1,1;");
        Check.faulty(Check.shots(16, 1) + "|s15,1,1,1,1;");
        Check.faulty("|s1,1,1,1,1;");
        Check.faulty("|s15,1,1,1,1;");
        Check.faulty(Check.shots(1, 1) + "|s0,1,1,1,1;");
        Check.faulty(Check.shots(1, 1) + "|s2,1,1,1,1;");
    }

    private static void shotFrames() {
        Doc.terms(2, "f frames (1 to 400)");
        Check.sound("s0,1,1,1,1;");
        Check.sound("s0,400,1,1,1;");
        Check.faulty("|s0,0,1,1,1;");
        Check.faulty("|s0,401,1,1,1;");
        Check.faulty("|s0,9999,1,1,1;");
        Check.faulty("s0,400,1,1,1;|s1,401,1,1,1;");
    }

    private static void shotLights() {
        Doc.terms(2, "LIGHT r, g, b");
        Check.sound("s0,1,1,1,1;s1,1,50,50,50;");
        Check.faulty("|s0,1,0,1,1;");
        Check.faulty("|s0,1,1,0,1;");
        Check.faulty("|s0,1,1,1,0;");
        Check.faulty("|s0,1,51,1,1;");
        Check.faulty("|s0,1,1,51,1;");
        Check.faulty("|s0,1,1,1,51;");
        Check.sound("s0,1,1,1,1;f1,1,1,1;");
        Check.sound("s0,1,1,1,1;f1,50,50,50;");
        Check.faulty("s0,1,1,1,1;|f1,0,1,1;");
        Check.faulty("s0,1,1,1,1;|f1,1,0,1;");
        Check.faulty("s0,1,1,1,1;|f1,1,1,0;");
        Check.faulty("s0,1,1,1,1;|f1,51,1,1;");
        Check.faulty("s0,1,1,1,1;|f1,1,51,1;");
        Check.faulty("s0,1,1,1,1;|f1,1,1,51;");
    }

    private static void fadeFrames() {
        Doc.terms(2, "a FADE of the latest SHOT over its last K frames (1 to its frames; one each SHOT)");
        Check.sound("s0,9,1,1,1;f1,1,1,1;");
        Check.sound("s0,9,1,1,1;f9,1,1,1;");
        Check.sound("s0,400,1,1,1;f400,1,1,1;");
        Check.faulty("s0,9,1,1,1;|f0,1,1,1;");
        Check.faulty("s0,9,1,1,1;|f10,1,1,1;");
        Check.faulty("s0,400,1,1,1;|f401,1,1,1;");
        Check.faulty("s0,9,1,1,1;s1,2,1,1,1;|f3,1,1,1;");
        Check.faulty("|f1,1,1,1;s0,9,1,1,1;");
        Check.faulty("c1;|f1,1,1,1;");
        Check.faulty("s0,9,1,1,1;f1,1,1,1;|f1,1,1,1;");
        Check.faulty("s0,9,1,1,1;f1,1,1,1;e0,1,1;c1;|f1,1,1,1;");
        Check.sound("s0,9,1,1,1;f1,1,1,1;s1,9,1,1,1;f9,1,1,1;");
        Check.sound("s0,9,1,1,1;s1,9,1,1,1;f9,1,1,1;");
        lightsAre("s0,3,10,1,1;f1,20,1,1;s1,1,30,1,1;", 10, 10, 20, 30);
        lightsAre("s0,1,10,1,1;f1,20,1,1;", 20);
    }

    private static void fadeLights() {
        Doc.terms(2, "frame j of these (1 to K) has LIGHT from the SHOT's own:"
            + " own and (to less own) times j by K, cut towards 0");
        lightsAre("s0,5,10,1,1;f4,13,1,1;", 10, 10, 11, 12, 13);
        lightsAre("s0,5,13,1,1;f4,10,1,1;", 13, 13, 12, 11, 10);
        lightsAre("s0,2,1,1,1;f2,50,1,1;", 25, 50);
        lightsAre("s0,2,50,1,1;f2,1,1,1;", 26, 1);
        lightsAre("s0,2,7,1,1;f2,7,1,1;", 7, 7);
        PrinterLights x = Check.loaded("s0,400,1,50,1;f400,50,1,1;");
        int[][] upAndDown = {{0, 1, 50}, {7, 1, 50}, {8, 2, 49}, {398, 49, 2}, {399, 50, 1}};
        for (int[] row : upAndDown) {
            Check.due("49 by 400 at " + row[0], x.light(row[0], 0), row[1]);
            Check.due("-49 by 400 at " + row[0], x.light(row[0], 1), row[2]);
        }
        PrinterLights y = Check.loaded(Check.shots(16, 1) + "f1,50,40,30;e0,1,1;e0,1,1;e0,1,1;e0,1,1;");
        for (int colour = 0; colour < 3; colour++) {
            Check.due("the last SHOT of all, of " + colour, y.light(15, colour), 46 - 10 * colour);
        }
    }

    private static void effectFrames() {
        Doc.terms(2, "an EFFECT in the latest SHOT: from its frame K (0, ..) on n frames (1 or more, all in the SHOT)");
        Check.sound("s0,9,1,1,1;e0,1,1;");
        Check.sound("s0,9,1,1,1;e0,9,1;");
        Check.sound("s0,9,1,1,1;e8,1,1;");
        Check.sound("s0,400,1,1,1;e399,1,1;e0,400,1;");
        Check.faulty("s0,9,1,1,1;|e0,0,1;");
        Check.faulty("s0,9,1,1,1;|e0,10,1;");
        Check.faulty("s0,9,1,1,1;|e8,2,1;");
        Check.faulty("s0,9,1,1,1;|e9,1,1;");
        Check.faulty("s0,9,1,1,1;|e9,0,1;");
        Check.faulty("s0,9,1,1,1;|e9999,9999,1;");
        Check.faulty("s0,9,1,1,1;s1,2,1,1,1;|e2,1,1;");
        Check.faulty("|e0,1,1;s0,9,1,1,1;");
        Check.faulty("c1;|e0,1,1;");
        lightsAre("s0,2,20,1,1;s1,3,20,1,1;e0,1,5;s2,1,20,1,1;", 20, 20, 15, 20, 20, 20);
        lightsAre("s0,3,20,1,1;e2,1,5;s1,1,20,1,1;", 20, 20, 15, 20);
        lightsAre("s0,3,20,1,1;e0,3,5;s1,1,20,1,1;", 15, 15, 15, 20);
    }

    private static void effectLess() {
        Doc.terms(2, "LIGHT of all COLOURS is d less (d 1 to 40; not below 1);");
        Check.sound("s0,9,1,1,1;e0,1,1;");
        Check.sound("s0,9,1,1,1;e0,1,40;");
        Check.faulty("s0,9,1,1,1;|e0,1,0;");
        Check.faulty("s0,9,1,1,1;|e0,1,41;");
        Check.faulty("s0,9,1,1,1;|e0,1,9999;");
        PrinterLights x = Check.loaded("s0,2,42,41,40;e0,1,40;e1,1,1;s1,1,2,1,50;e0,1,1;s2,1,1,50,1;e0,1,40;");
        int[][] due = {{2, 1, 1}, {41, 40, 39}, {1, 1, 49}, {1, 10, 1}};
        for (int frame = 0; frame < due.length; frame++) {
            for (int colour = 0; colour < 3; colour++) {
                Check.due("at " + frame + " of " + colour, x.light(frame, colour), due[frame][colour]);
            }
        }
    }

    private static void effectsOfAShot() {
        Doc.terms(2, "4 EFFECTS a SHOT at most;");
        Check.sound("s0,9,1,1,1;e0,1,1;e0,1,1;e0,1,1;e0,1,1;");
        Check.faulty("s0,9,1,1,1;e0,1,1;e0,1,1;e0,1,1;e0,1,1;|e0,1,1;");
        Check.faulty("s0,9,1,1,1;e0,1,1;e0,1,1;e0,1,1;e0,1,1;f1,1,1,1;c1;|e8,1,1;");
        Check.sound("s0,9,1,1,1;e0,1,1;e0,1,1;e0,1,1;e0,1,1;s1,9,1,1,1;e0,1,1;e0,1,1;e0,1,1;e0,1,1;");
        Check.faulty("s0,9,1,1,1;s1,9,1,1,1;e0,1,1;e0,1,1;e0,1,1;e0,1,1;|e0,1,1;");
        lightsAre("s0,5,50,1,1;e0,1,1;e1,1,2;e2,1,3;e3,1,4;s1,1,50,1,1;e0,1,5;", 49, 48, 47, 46, 50, 45);
    }

    private static void effectsBehindFades() {
        Doc.terms(2, "behind what FADES do, one behind the other");
        lightsAre("s0,2,10,1,1;f2,20,1,1;e0,2,5;", 10, 15);
        lightsAre("s0,2,10,1,1;e0,2,5;f2,20,1,1;", 10, 15);
        lightsAre("s0,2,10,1,1;e0,2,12;f2,50,1,1;", 18, 38);
        lightsAre("s0,3,12,1,1;e0,3,5;e1,2,5;e2,1,5;", 7, 2, 1);
        lightsAre("s0,1,3,1,1;f1,2,1,1;e0,1,40;e0,1,40;e0,1,40;e0,1,40;", 1);
    }

    private static void copies() {
        Doc.terms(2, "COPIES (1 to 999); once at most");
        Check.sound("c1;");
        Check.sound("c999;");
        Check.faulty("|c0;");
        Check.faulty("|c1000;");
        Check.faulty("c1;|c1;");
        Check.faulty("c1;s0,1,1,1,1;|c2;");
        Check.sound("s0,1,1,1,1;c7;s1,1,1,1,1;");
        PrinterLights x = Check.loaded("s0,1,1,1,1;c999;");
        Check.due("999", x.list(2), 999);
        Check.due("LOADED anew, it may be told again", Check.load(x, "c1;s0,1,1,1,1;"), 1);
        Check.due("1", x.list(2), 1);
    }

    private static void firstFault() {
        Doc.terms(2, "FAULT: the place of the first byte of the first ITEM that is not so"
            + " (what is left without ; is one, too).");
        Check.faulty("|x;");
        Check.faulty("|x;x;");
        Check.faulty("c1;|x;x;");
        Check.faulty("c1;|s0,1,1,1,99;c9;");
        Check.faulty("s0,1,1,1,1;|s1,1,1,1,0;s1,1,1,1,1;");
        Check.faulty("c1;|c1;c1");
        Check.faulty("c1;|x");
        Check.faulty("c1;|s0,1,1,1,1");
        Check.faulty("|c");
        Check.faulty("|S0,1,1,1,1;");
        PrinterLights x = with(400);
        Check.due("400 left without ;", x.fault(), 0);
        PrinterLights y = fresh();
        Check.write(y, LONGEST.substring(0, 399));
        Check.due("the last ; is not there", y.fault(), 388);
    }

    private static void mayBeLoaded() {
        Doc.terms(2, "A TEXT without FAULT and with a SHOT may be LOADED: that is THE LIST:");
        Check.due("the least", fresh().load(), NO);
        Check.due("COPIES alone", Check.load(fresh(), "c1;"), NO);
        Check.due("a SHOT", Check.load(fresh(), "s0,1,1,1,1;"), 1);
        Check.due("a SHOT behind COPIES", Check.load(fresh(), "c1;s0,1,1,1,1;"), 1);
        Check.due("a SHOT and a FAULT", Check.load(fresh(), "s0,1,1,1,1;c"), NO);
        PrinterLights x = Check.loaded("s0,2,9,9,9;f2,1,1,1;s1,2,9,9,9;e0,2,5;c7;");
        Check.due("another one", Check.load(x, "s0,2,9,9,9;s1,2,9,9,9;"), 4);
        for (int frame = 0; frame < 4; frame++) {
            Check.due("no FADE, no EFFECT of the one that was, at " + frame, x.light(frame, 0), 9);
        }
        Check.due("no COPIES of the one that was", x.list(2), 1);
    }

    private static void framesNumbered() {
        Doc.terms(2, "its frames are numbered from 0 through all SHOTS.");
        PrinterLights x = Check.loaded(Check.shots(16, 400));
        Check.due("the most frames", x.list(1), 6400);
        for (int shot = 0; shot < 16; shot++) {
            Check.due("the first of " + shot, x.shotOf(400 * shot), shot);
            Check.due("the last of " + shot, x.shotOf(400 * shot + 399), shot);
        }
        Check.due("behind the last", x.shotOf(6400), NO);
        lightsAre("s0,1,5,1,1;s1,1,6,1,1;s2,1,7,1,1;", 5, 6, 7);
    }

    // ---- Terms, part 2: the clock

    private static void waitFrames() {
        Doc.terms(2, "THE CLOCK lets LIGHT change at a frame (from that of the frame ahead), if the latest frame at which"
            + " it changed ahead of it is WAIT frames (1 to 48; 6 at first) behind at least, or there is none;");
        Check.range("WAIT", 1, 48, BAD, v -> fresh().rule(0, v));
        Check.due("at first", fresh().rule(0, 6), 6);
        Check.due("6 at first: five behind", Check.loaded("s0,1,1,1,1;s1,5,2,2,2;s2,1,1,1,1;").soon(0), 6);
        Check.due("6 at first: six behind", Check.loaded("s0,1,1,1,1;s1,6,2,2,2;s2,1,1,1,1;").soon(0), NONE);
        soonIs(1, "s0,1,1,1,1;s1,1,2,2,2;s2,1,1,1,1;");
        soonIs(2, "s0,1,1,1,1;s1,1,2,2,2;s2,1,1,1,1;", 2);
        soonIs(2, "s0,1,1,1,1;s1,2,2,2,2;s2,1,1,1,1;");
        soonIs(48, "s0,1,1,1,1;s1,48,2,2,2;s2,1,1,1,1;");
        soonIs(48, "s0,1,1,1,1;s1,47,2,2,2;s2,1,1,1,1;", 48);
        soonIs(48, "s0,1,1,1,1;s1,400,2,2,2;s2,1,1,1,1;");
        // there is none ahead of it: the first frame is no change, nor is a SHOT of the same LIGHT
        soonIs(48, "s0,1,1,1,1;");
        soonIs(48, "s0,1,1,1,1;s1,1,2,2,2;");
        soonIs(48, "s0,1,1,1,1;s1,1,1,1,1;s2,1,1,1,2;s3,1,1,1,2;s4,1,1,2,2;", 4);
        // one COLOUR is enough
        soonIs(6, "s0,1,1,1,1;s1,1,2,1,1;s2,1,2,2,1;s3,1,2,2,2;", 2, 3);
    }

    private static void anyChangeIsLet() {
        Doc.terms(2, "but within a FADE's frames and an EFFECT's first frame and the first frame behind it"
            + " any change is let.");
        // a FADE of a whole SHOT has the cut in it; one that begins a frame later has not
        soonIs(6, "s0,1,1,1,1;s1,2,9,9,9;s2,2,20,20,20;f2,30,30,30;");
        soonIs(6, "s0,1,1,1,1;s1,2,9,9,9;s2,2,20,20,20;f1,30,30,30;", 3);
        // the frame behind a FADE is not in it
        soonIs(6, "s0,4,1,1,1;f3,9,9,9;s1,1,8,8,8;", 4);
        // an EFFECT's first frame, and the next one
        soonIs(6, "s0,1,1,1,1;s1,2,9,9,9;s2,2,20,20,20;e0,2,1;");
        soonIs(6, "s0,1,1,1,1;s1,2,9,9,9;s2,2,20,20,20;e1,1,1;", 3);
        // the first frame behind an EFFECT, and the second one
        soonIs(6, "s0,1,1,1,1;s1,2,9,9,9;e1,1,1;s2,2,20,20,20;");
        soonIs(6, "s0,1,1,1,1;s1,3,9,9,9;e1,1,1;s2,2,20,20,20;", 4);
        // an EFFECT that can't go below 1 is no change, but its first frame is one all the same
        soonIs(6, "s0,1,9,9,9;s1,2,2,2,2;s2,2,1,1,1;e0,1,40;");
        soonIs(48, "s0,9,50,50,50;e1,1,1;e3,1,1;e5,1,1;e7,1,1;");
        soonIs(48, "s0,400,1,1,1;f400,50,50,50;");
    }

    private static void countsAsOne() {
        Doc.terms(2, "TOO SOON are frames at which it is not let (a change there counts as one all the same).");
        soonIs(6, "s0,1,1,1,1;s1,3,2,2,2;s2,5,3,3,3;s3,6,4,4,4;s4,1,5,5,5;", 4, 9);
        // a change that is let in a FADE or at an EFFECT counts, too
        soonIs(6, "s0,9,9,9,9;e1,2,1;s1,1,2,2,2;");
        soonIs(6, "s0,9,9,9,9;e1,3,1;s1,1,2,2,2;", 9);
        soonIs(6, "s0,9,9,9,9;f1,2,2,2;s1,1,9,9,9;", 9);
        // fifteen cuts, of which the first alone is let
        StringBuilder text = new StringBuilder();
        int[] soon = new int[14];
        for (int shot = 0; shot < 16; shot++) {
            text.append(String.format("s%d,1,%d,1,1;", shot, shot + 1));
        }
        for (int i = 0; i < soon.length; i++) {
            soon[i] = i + 2;
        }
        soonIs(2, text.toString(), soon);
        Check.due("changes", Check.loaded(text.toString()).list(3), 15);
    }

    // ---- promises 10 to 13

    private static void writeBytes() {
        Doc.promise(10, "n bytes (1 to 8) of v, the highest first, come behind THE TEXT: how long it is.");
        Check.range("n", 1, 8, BAD, n -> fresh().write(n, 0));
        for (int n = 1; n <= 8; n++) {
            Check.due("how long", fresh().write(n, -1L), n);
        }
        PrinterLights x = fresh();
        Check.due("eight: s0,1,2,3", x.write(8, 0x73302C312C322C33L), 8);
        Check.due("three: ,4; the higher five do not count", x.write(3, 0xFFFFFFFFFF2C343BL), 11);
        Check.due("one: c", x.write(1, 0x3B3B3B3B3B3B3B63L), 12);
        Check.due("two: 9;", x.write(2, Long.MIN_VALUE + 0x393B), 14);
        Check.due("as written", x.load(), 1);
        Check.due("as written", x.light(0, 2), 4);
        Check.due("as written", x.list(2), 9);
    }

    private static void writeRefused() {
        Doc.promise(10, "BAD; FULL.");
        int[] sizes = {0, 9, -1, Integer.MIN_VALUE, Integer.MAX_VALUE};
        for (int n : sizes) {
            Check.due("BAD " + n, fresh().write(n, 0), BAD);
            Check.due("BAD ahead of FULL " + n, with(400).write(n, 0), BAD);
        }
        for (int n = 1; n <= 8; n++) {
            Check.due("up to 400 by " + n, with(400 - n).write(n, 0), 400);
            PrinterLights x = with(401 - n);
            Check.due("up to 401 by " + n, x.write(n, 0), FULL);
            Check.due("nothing changes by " + n, x.count(0), 401 - n);
        }
        PrinterLights y = with(400);
        Check.due("FULL", y.write(8, 0), FULL);
        y.clear();
        Check.due("empty again", y.write(8, 0), 8);
    }

    private static void clearText() {
        Doc.promise(11, "THE TEXT is empty: how long it was.");
        PrinterLights x = fresh();
        Check.due("empty", x.clear(), 0);
        Check.due("empty again", x.clear(), 0);
        x = with(1);
        Check.due("1", x.clear(), 1);
        Check.due("then", x.count(0), 0);
        Check.due("no FAULT is left", x.fault(), NONE);
        x = with(400);
        Check.due("400", x.clear(), 400);
        Check.due("then", x.count(0), 0);
        Check.due("then no LIST", x.load(), NO);
        x = Check.loaded("s0,3,1,1,1;");
        x.clear();
        Check.due("THE LIST stays", x.list(1), 3);
        Check.due("NO changes nothing", x.load(), NO);
        Check.due("THE LIST stays", x.list(1), 3);
    }

    private static void faultNone() {
        Doc.promise(12, "FAULT. NONE.");
        Check.sound("");
        Check.sound("s0,1,1,1,1;");
        Check.sound(LONGEST);
        Check.faulty("|s0,1,1,1,1");
        Check.faulty(LONGEST.substring(0, 388) + "|e0000,2,001;");
        PrinterLights x = Check.loaded("s0,1,1,1,1;");
        Check.write(x, "x");
        Check.due("at the first byte behind", x.fault(), 11);
        Check.due("asked again", x.fault(), 11);
        Check.due("THE LIST stays", x.list(0), 1);
    }

    private static void loadStays() {
        Doc.promise(13, "LOADED: how many frames THE LIST has."
            + " (SHOTS' densities, AIMS, where they come from stay, by numbers.)");
        PrinterLights x = fresh();
        Check.due("the fewest", Check.load(x, Check.shots(1, 1)), 1);
        x.reel(7, 0, 2000);
        for (int shot = 0; shot < 16; shot++) {
            x.shot(shot, 2, 0, shot);
            x.shot(shot, 2, 1, 100 + shot);
            x.from(shot, 7, 10 * shot);
        }
        Check.due("the most", Check.load(x, Check.shots(16, 400)), 6400);
        for (int shot = 0; shot < 16; shot++) {
            Check.due("density " + shot, x.shot(shot, 2, 0, 60), shot);
            Check.due("AIM " + shot, x.shot(shot, 2, 1, -1), 100 + shot);
            Check.due("from " + shot, x.edge(400 * shot), 10 * shot);
        }
        Check.due("fewer again", Check.load(x, Check.shots(1, 1)), 1);
        Check.due("more again", Check.load(x, Check.shots(16, 1)), 16);
        Check.due("of a SHOT that was not in THE LIST", x.shot(15, 2, 0, 60), 60);
        Check.due("of a SHOT that was not in THE LIST", x.edge(15), 150);
    }

    private static void loadNo() {
        Doc.promise(13, "NO: a FAULT, or no SHOT.");
        Check.due("an empty TEXT", fresh().load(), NO);
        Check.due("no SHOT", Check.load(fresh(), "c1;"), NO);
        Check.due("a FAULT ahead", Check.load(fresh(), "x;s0,1,1,1,1;"), NO);
        Check.due("a FAULT behind", Check.load(fresh(), "s0,1,1,1,1;x"), NO);
        PrinterLights x = Check.loaded("s0,2,7,7,7;s1,2,9,9,9;f1,3,3,3;c4;");
        x.run(0);
        String faulty = "s0,1,1,1,1;c2;s1,400,5,5,5;e0,1,3;x;";
        Check.due("a FAULT", Check.load(x, faulty), NO);
        Check.due("nothing changes: SHOTS", x.list(0), 2);
        Check.due("nothing changes: frames", x.list(1), 4);
        Check.due("nothing changes: COPIES", x.list(2), 4);
        Check.due("nothing changes: LIGHT", x.light(2, 0), 9);
        Check.due("nothing changes: FADE", x.light(3, 0), 3);
        Check.due("nothing changes: HOLD", x.splice(0), 96);
        Check.due("nothing changes: THE TEXT", x.count(0), faulty.length());
    }

    // ---- promises 14 to 17

    private static void lightBad() {
        Doc.promise(14, "LIGHT of a COLOUR at a frame. BAD;");
        Check.range("colour", 0, 2, BAD, c -> Check.loaded("s0,2,1,1,1;").light(1, c));
        Check.due("frame -1", Check.loaded("s0,2,1,1,1;").light(-1, 0), BAD);
        Check.due("the farthest frame", Check.loaded("s0,2,1,1,1;").light(Integer.MIN_VALUE, 0), BAD);
        Check.due("colour, ahead of no such frame", Check.loaded("s0,2,1,1,1;").light(2, 3), BAD);
        Check.due("colour, ahead of no LIST", fresh().light(0, -1), BAD);
        Check.due("frame, ahead of no LIST", fresh().light(-1, 0), BAD);
    }

    private static void lightNo() {
        Doc.promise(14, "NO: there is no LIST, no such frame.");
        Check.due("no LIST", fresh().light(0, 0), NO);
        Check.due("the last frame", Check.loaded("s0,2,8,8,8;").light(1, 2), 8);
        Check.due("no such frame", Check.loaded("s0,2,8,8,8;").light(2, 2), NO);
        Check.due("no such frame", Check.loaded("s0,2,8,8,8;").light(Integer.MAX_VALUE, 2), NO);
        Check.due("the last frame of all", Check.loaded(Check.shots(16, 400)).light(6399, 0), 1);
        Check.due("no such frame in any LIST", Check.loaded(Check.shots(16, 400)).light(6400, 0), NO);
        PrinterLights x = Check.loaded("s0,9,8,8,8;");
        Check.load(x, "s0,2,8,8,8;");
        Check.due("a frame of THE LIST that was", x.light(2, 0), NO);
    }

    private static void shotOfRefused() {
        Doc.promise(15, "The SHOT of a frame. BAD; NO.");
        PrinterLights x = Check.loaded("s0,1,1,1,1;s1,2,1,1,1;");
        int[] due = {0, 1, 1, NO};
        for (int frame = 0; frame < due.length; frame++) {
            Check.due("frame " + frame, x.shotOf(frame), due[frame]);
        }
        Check.due("the farthest frame", x.shotOf(Integer.MAX_VALUE), NO);
        Check.due("frame -1", x.shotOf(-1), BAD);
        Check.due("the farthest frame", x.shotOf(Integer.MIN_VALUE), BAD);
        Check.due("no LIST", fresh().shotOf(0), NO);
        Check.due("BAD, ahead of no LIST", fresh().shotOf(-1), BAD);
    }

    private static void soonNumbers() {
        Doc.promise(16, "Frames that are TOO SOON: how many (i = -1), the i-th (NONE). BAD; NO: no LIST.");
        PrinterLights x = Check.loaded("s0,1,1,1,1;s1,1,2,2,2;s2,1,3,3,3;s3,1,4,4,4;");
        int[] due = {BAD, 2, 2, 3, NONE, NONE};
        for (int i = -2; i <= 3; i++) {
            Check.due("i " + i, x.soon(i), due[i + 2]);
        }
        Check.due("the farthest", x.soon(Integer.MAX_VALUE), NONE);
        Check.due("the farthest", x.soon(Integer.MIN_VALUE), BAD);
        PrinterLights y = Check.loaded("s0,1,1,1,1;");
        Check.due("none", y.soon(-1), 0);
        Check.due("the first of none", y.soon(0), NONE);
        Check.due("no LIST", fresh().soon(-1), NO);
        Check.due("no LIST, ahead of NONE", fresh().soon(0), NO);
        Check.due("BAD, ahead of no LIST", fresh().soon(-2), BAD);
    }

    private static void listCopies() {
        Doc.promise(17, "2 COPIES (1, if none were told), 3 changes of LIGHT");
        Check.due("none were told", Check.loaded("s0,1,1,1,1;").list(2), 1);
        Check.due("1 was told", Check.loaded("s0,1,1,1,1;c1;").list(2), 1);
        Check.due("999 were told", Check.loaded("s0,1,1,1,1;c999;").list(2), 999);
        Check.due("no change", Check.loaded("s0,400,1,1,1;s1,400,1,1,1;").list(3), 0);
        Check.due("a change at each frame but the first", Check.loaded("s0,49,1,1,1;f49,50,1,1;").list(3), 48);
        Check.due("each frame once, of all COLOURS", Check.loaded("s0,1,1,1,1;s1,1,2,3,4;").list(3), 1);
        Check.due("an EFFECT has two", Check.loaded("s0,3,9,9,9;e1,1,1;").list(3), 2);
        Check.due("an EFFECT that can't go below 1 has none", Check.loaded("s0,3,1,1,1;e1,1,40;").list(3), 0);
    }

    private static void listFeet() {
        Doc.promise(17, "4 FEET of all COPIES (each by 16, rounded up).");
        int[][] rows = {{1, 1}, {15, 1}, {16, 1}, {17, 2}, {32, 2}, {33, 3}, {400, 25}};
        for (int[] row : rows) {
            Check.due("frames " + row[0], Check.loaded("s0," + row[0] + ",1,1,1;").list(4), row[1]);
            Check.due("each of 999 of " + row[0], Check.loaded("c999;s0," + row[0] + ",1,1,1;").list(4), 999 * row[1]);
        }
        Check.due("the most", Check.loaded(Check.shots(16, 400) + "c999;").list(4), 399600);
    }

    private static void listRefused() {
        Doc.promise(17, "BAD; NO.");
        Check.range("what", 0, 4, BAD, w -> Check.loaded("s0,1,1,1,1;").list(w));
        for (int what = 0; what <= 4; what++) {
            Check.due("no LIST " + what, fresh().list(what), NO);
        }
        Check.due("BAD, ahead of no LIST", fresh().list(5), BAD);
        Check.due("BAD, ahead of no LIST", fresh().list(-1), BAD);
        Check.due("the fewest SHOTS", Check.loaded(Check.shots(1, 1)).list(0), 1);
        Check.due("the most SHOTS", Check.loaded(Check.shots(16, 1)).list(0), 16);
    }
}
