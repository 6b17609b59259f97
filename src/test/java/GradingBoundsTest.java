/** The boundaries that the document names in part 3 of its Terms and in the promises 18 to 20, sentence by sentence. */
public final class GradingBoundsTest {
    private static final int BAD = PrinterLights.BAD, NO = PrinterLights.NO, NONE = PrinterLights.NONE;
    private static final int BAD_SHOT = -100;

    public static void main(String[] args) {
        densityAndAim();
        near();
        leastSteps();
        lowestPoints();
        noSuchPoints();
        shotDensity();
        shotAim();
        gradeNumbers();
        gradeBad();
        gradeNo();
        frameToneRefused();
        frameToneOfItsShot();
        Doc.termsAreWhole(3);
        Doc.promisesAreWhole(18, 20);
        Check.end();
    }

    private static PrinterLights fresh() {
        return new PrinterLights();
    }

    private static PrinterLights shots(int n) {
        return Check.loaded(Check.shots(n, 1));
    }

    /** Leaves one number of POINTS alone to a SHOT, as NEAR is 0: 1 (EXPOSURE 21) or 50 (EXPOSURE 60). */
    private static void fix(PrinterLights x, int shot, int points) {
        x.shot(shot, 0, 0, points == 1 ? 0 : 10);
        x.shot(shot, 0, 1, points == 1 ? 45 : 242);
    }

    private static void gradeIs(PrinterLights x, int steps, int... points) {
        Check.due("steps", x.grade(0, 0, 0, -1), steps);
        for (int shot = 0; shot < points.length; shot++) {
            Check.due("POINTS of " + shot, x.grade(0, 0, 0, shot), points[shot]);
        }
    }

    // ---- Terms, part 3

    private static void densityAndAim() {
        Doc.terms(3, "SHOTS have a density of each COLOUR (0 to 60; 30 at first)"
            + " and an AIM: TONE of each COLOUR (or none, at first).");
        PrinterLights x = fresh();
        for (int cell = 0; cell < 48; cell++) {
            Check.due("density at first", x.shot(cell / 3, cell % 3, 0, cell), 30);
            Check.due("no AIM at first", x.shot(cell / 3, cell % 3, 1, 200 + cell), -1);
        }
        for (int cell = 0; cell < 48; cell++) {
            Check.due("density of its own", x.shot(cell / 3, cell % 3, 0, 60), cell);
            Check.due("AIM of its own", x.shot(cell / 3, cell % 3, 1, -1), 200 + cell);
        }
        Check.range("density", 0, 60, BAD_SHOT, v -> fresh().shot(0, 0, 0, v));
    }

    /** TONE 55, 60, 66 by POINTS 33, 34, 35, 160 by 50. */
    private static int lowest(int near, int aim) {
        PrinterLights x = shots(1);
        x.rule(1, near);
        x.shot(0, 0, 1, aim);
        return x.grade(0, 0, 0, 0);
    }

    private static void near() {
        Doc.terms(3, "so that TONE is off its AIM by NEAR (0 to 60; 6 at first) at most (without an AIM any);");
        Check.range("NEAR", 0, 60, BAD, v -> fresh().rule(1, v));
        Check.due("at first", fresh().rule(1, 0), 6);
        Check.due("NEAR 0", lowest(0, 60), 34);
        Check.due("NEAR 4, off by 5", lowest(4, 60), 34);
        Check.due("NEAR 5, off by 5", lowest(5, 60), 33);
        Check.due("NEAR 0, off by 1 below", lowest(0, 59), NONE);
        Check.due("NEAR 0, off by 1 above", lowest(0, 61), NONE);
        Check.due("NEAR 60, off by 60", lowest(60, 220), 50);
        Check.due("NEAR 60, off by 61", lowest(60, 221), NONE);
        Check.due("NEAR 60, AIM 0", lowest(60, 0), 1);
        Check.due("AIM 255", lowest(60, 255), NONE);
        PrinterLights x = shots(1);
        x.shot(0, 0, 1, 166);
        Check.due("6 at first, off by 6", x.grade(0, 0, 0, 0), 50);
        x.shot(0, 0, 1, 167);
        Check.due("6 at first, off by 7", x.grade(0, 0, 0, 0), NONE);
        x.shot(0, 0, 1, -1);
        Check.due("without an AIM any", x.grade(0, 0, 0, 0), 1);
        x.rule(1, 0);
        Check.due("without an AIM any, NEAR 0", x.grade(0, 0, 0, 0), 1);
    }

    private static void leastSteps() {
        Doc.terms(3, "of all those with the least sum of sizes of steps from SHOT to SHOT;");
        PrinterLights x = shots(16);
        x.rule(1, 0);
        int[] points = new int[16];
        for (int shot = 0; shot < 16; shot++) {
            points[shot] = shot % 2 == 0 ? 1 : 50;
            fix(x, shot, points[shot]);
        }
        gradeIs(x, 15 * 49, points);
        gradeIs(shots(1), 0, 1);
        gradeIs(shots(16), 0, 1, 1, 1, 1, 1, 1, 1, 1, 1, 1, 1, 1, 1, 1, 1, 1);
        PrinterLights y = shots(2);
        y.rule(1, 0);
        fix(y, 1, 50);
        gradeIs(y, 0, 50, 50);
        fix(y, 0, 1);
        gradeIs(y, 49, 1, 50);
        PrinterLights z = shots(3);
        // SHOT 0 has POINTS 46 to 50 (TONE 235 to 242), SHOT 1 has 1 to 19 (TONE 0 to 6)
        z.shot(0, 0, 0, 10);
        z.shot(0, 0, 1, 241);
        z.shot(1, 0, 1, 0);
        gradeIs(z, 46 - 19, 46, 19, 19);
    }

    private static void lowestPoints() {
        Doc.terms(3, "of several that whose POINTS are lower, from SHOT 0 on.");
        PrinterLights x = shots(3);
        x.rule(1, 0);
        gradeIs(x, 0, 1, 1, 1);
        fix(x, 0, 50);
        fix(x, 2, 1);
        gradeIs(x, 49, 50, 1, 1);
        fix(x, 0, 1);
        fix(x, 2, 50);
        gradeIs(x, 49, 1, 1, 50);
        PrinterLights y = shots(2);
        y.rule(1, 5);
        y.shot(1, 0, 1, 60);
        gradeIs(y, 0, 33, 33);
        y.shot(0, 0, 1, 60);
        y.shot(1, 0, 1, -1);
        gradeIs(y, 0, 33, 33);
    }

    private static void noSuchPoints() {
        Doc.terms(3, "None, if a SHOT has no such POINTS.");
        for (int shot = 0; shot < 16; shot++) {
            PrinterLights x = shots(16);
            x.shot(shot, 0, 1, 255);
            Check.due("SHOT " + shot + " has none: the steps", x.grade(0, 0, 0, -1), NONE);
            Check.due("SHOT " + shot + " has none: itself", x.grade(0, 0, 0, shot), NONE);
            Check.due("SHOT " + shot + " has none: another", x.grade(0, 0, 0, 15 - shot), NONE);
            Check.due("SHOT " + shot + " has none: another COLOUR", x.grade(0, 0, 1, shot), 1);
        }
        PrinterLights y = shots(15);
        y.shot(15, 0, 1, 255);
        Check.due("a SHOT that is not in THE LIST", y.grade(0, 0, 0, -1), 0);
    }

    // ---- promise 18

    private static void shotDensity() {
        Doc.promise(18, "A SHOT's (0 to 15) density of a COLOUR (what = 0; 0 to 60)");
        Check.range("shot", 0, 15, BAD_SHOT, s -> fresh().shot(s, 2, 0, 60));
        Check.range("colour", 0, 2, BAD_SHOT, c -> fresh().shot(15, c, 0, 60));
        Check.range("density", 0, 60, BAD_SHOT, v -> fresh().shot(15, 2, 0, v));
        PrinterLights x = fresh();
        Check.due("density 60", x.shot(15, 2, 0, 60), 30);
        Check.due("density 61", x.shot(15, 2, 0, 61), BAD_SHOT);
        Check.due("density -1", x.shot(15, 2, 0, -1), BAD_SHOT);
        Check.due("density 0", x.shot(15, 2, 0, 0), 60);
        Check.due("what it was", x.shot(15, 2, 0, 0), 0);
    }

    private static void shotAim() {
        Doc.promise(18, "AIM (1; 0 to 255, -1: none): what it was (-1). BAD -100.");
        PrinterLights x = fresh();
        Check.due("AIM 0", x.shot(15, 2, 1, 0), -1);
        Check.due("AIM 255", x.shot(15, 2, 1, 255), 0);
        Check.due("AIM 256", x.shot(15, 2, 1, 256), BAD_SHOT);
        Check.due("AIM -2", x.shot(15, 2, 1, -2), BAD_SHOT);
        Check.due("AIM of the farthest", x.shot(15, 2, 1, Integer.MAX_VALUE), BAD_SHOT);
        Check.due("AIM of the farthest", x.shot(15, 2, 1, Integer.MIN_VALUE), BAD_SHOT);
        Check.due("none", x.shot(15, 2, 1, -1), 255);
        Check.due("it was none", x.shot(15, 2, 1, -1), -1);
        Check.due("shot 16", x.shot(16, 0, 1, 0), BAD_SHOT);
        Check.due("shot -1", x.shot(-1, 0, 1, 0), BAD_SHOT);
        Check.due("colour 3", x.shot(0, 3, 1, 0), BAD_SHOT);
        Check.due("colour -1", x.shot(0, -1, 1, 0), BAD_SHOT);
        Check.due("what 2", x.shot(0, 0, 2, 0), BAD_SHOT);
        Check.due("what -1", x.shot(0, 0, -1, 0), BAD_SHOT);
        Check.due("nothing changed", x.shot(0, 0, 0, 30), 30);
        Check.due("nothing changed", x.shot(0, 0, 1, -1), -1);
    }

    // ---- promise 19

    private static void gradeNumbers() {
        Doc.promise(19, "POINTS of a SHOT (shot = -1: the sum of steps) by a COLOUR. NONE;");
        PrinterLights x = shots(2);
        x.rule(1, 0);
        fix(x, 0, 50);
        fix(x, 1, 1);
        gradeIs(x, 49, 50, 1);
        Check.due("another COLOUR", x.grade(0, 0, 1, -1), 0);
        x.lamp(0, 20);
        Check.due("by the LAMPS as they are", x.grade(0, 0, 0, -1), NONE);
        x.lamp(0, 0);
        x.bath(0, 0, 799);
        Check.due("by the BATH as it is", x.grade(0, 0, 0, -1), NONE);
        Check.due("by the other BATH", x.grade(0, 1, 0, -1), 49);
        x.table(0, 0, 3, 61);
        Check.due("by the TABLE as it is", x.grade(0, 1, 0, 0), 50);
        x.table(0, 0, 3, 63);
        Check.due("by the TABLE as it is", x.grade(0, 1, 0, 0), NONE);
        Check.due("by the other STOCK", x.grade(1, 1, 0, 0), 50);
    }

    private static void gradeBad() {
        Doc.promise(19, "BAD;");
        Check.range("stock", 0, 2, BAD, s -> shots(1).grade(s, 1, 2, -1));
        Check.range("bath", 0, 1, BAD, b -> shots(1).grade(2, b, 2, -1));
        Check.range("colour", 0, 2, BAD, c -> shots(1).grade(2, 1, c, -1));
        Check.range("shot", -1, 15, BAD, s -> shots(16).grade(2, 1, 2, s));
        Check.due("ahead of no LIST", fresh().grade(3, 0, 0, 0), BAD);
        Check.due("ahead of no LIST", fresh().grade(0, 0, 0, 16), BAD);
        Check.due("ahead of no such SHOT", shots(1).grade(0, 2, 0, 1), BAD);
        Check.due("ahead of no such SHOT", shots(1).grade(0, 0, 0, -2), BAD);
        PrinterLights x = shots(1);
        x.shot(0, 0, 1, 255);
        Check.due("ahead of NONE", x.grade(0, 0, 0, 16), BAD);
    }

    private static void gradeNo() {
        Doc.promise(19, "NO: no LIST, no such SHOT in it.");
        for (int shot = -1; shot <= 15; shot++) {
            Check.due("no LIST " + shot, fresh().grade(0, 0, 0, shot), NO);
        }
        Check.due("the last", shots(2).grade(0, 0, 0, 1), 1);
        Check.due("no such SHOT", shots(2).grade(0, 0, 0, 2), NO);
        Check.due("no such SHOT", shots(2).grade(0, 0, 0, 15), NO);
        Check.due("the last of all", shots(16).grade(0, 0, 0, 15), 1);
        PrinterLights x = shots(2);
        x.shot(1, 0, 1, 255);
        Check.due("ahead of NONE", x.grade(0, 0, 0, 2), NO);
    }

    // ---- promise 20

    private static void frameToneRefused() {
        Doc.promise(20, "BAD; NO.");
        Check.range("stock", 0, 2, BAD, s -> shots(2).frameTone(s, 1, 2, 1));
        Check.range("bath", 0, 1, BAD, b -> shots(2).frameTone(2, b, 2, 1));
        Check.range("colour", 0, 2, BAD, c -> shots(2).frameTone(2, 1, c, 1));
        Check.due("frame -1", shots(2).frameTone(0, 0, 0, -1), BAD);
        Check.due("the farthest frame", shots(2).frameTone(0, 0, 0, Integer.MIN_VALUE), BAD);
        Check.due("no such frame", shots(2).frameTone(0, 0, 0, 2), NO);
        Check.due("the farthest frame", shots(2).frameTone(0, 0, 0, Integer.MAX_VALUE), NO);
        Check.due("no LIST", fresh().frameTone(0, 0, 0, 0), NO);
        Check.due("BAD ahead of no LIST", fresh().frameTone(0, 0, 3, 0), BAD);
        Check.due("BAD ahead of no such frame", shots(2).frameTone(3, 0, 0, 2), BAD);
    }

    private static void frameToneOfItsShot() {
        Doc.promise(20, "TONE of a frame as THE LIST has it, of its SHOT's density.");
        PrinterLights x = Check.loaded("s0,2,50,50,50;e1,1,40;s1,1,50,50,50;f1,1,1,1;");
        x.shot(0, 2, 0, 0);
        x.shot(1, 2, 0, 60);
        Check.due("the most: EXPOSURE 70", x.frameTone(0, 0, 2, 0), 250);
        Check.due("the last of its SHOT: EXPOSURE 30", x.frameTone(0, 0, 2, 1), 97);
        Check.due("the first of the next: EXPOSURE -39", x.frameTone(0, 0, 2, 2), 0);
        Check.due("another COLOUR: EXPOSURE 40", x.frameTone(0, 0, 1, 0), 160);
        Check.due("another COLOUR: EXPOSURE -9", x.frameTone(0, 0, 1, 2), 0);
    }
}
