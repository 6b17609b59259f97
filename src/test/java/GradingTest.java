/** Promises 18 to 20. */
public final class GradingTest {
    public static void main(String[] args) {
        shot();
        grade();
        gradeLowest();
        gradeAsThingsAre();
        gradeSixteen();
        frameTone();
        Check.end();
    }

    private static void shot() {
        PrinterLights x = new PrinterLights();
        Check.due("18: density 60", x.shot(15, 2, 0, 60), 30);
        Check.due("18: density 0", x.shot(15, 2, 0, 0), 60);
        Check.due("18: density -1", x.shot(15, 2, 0, -1), -100);
        Check.due("18: density 61", x.shot(15, 2, 0, 61), -100);
        Check.due("18: a BAD changed nothing", x.shot(15, 2, 0, 1), 0);
        Check.due("18: AIM 0", x.shot(0, 1, 1, 0), -1);
        Check.due("18: AIM 255", x.shot(0, 1, 1, 255), 0);
        Check.due("18: AIM 256", x.shot(0, 1, 1, 256), -100);
        Check.due("18: AIM -2", x.shot(0, 1, 1, -2), -100);
        Check.due("18: no AIM", x.shot(0, 1, 1, -1), 255);
        Check.due("18: no AIM again", x.shot(0, 1, 1, -1), -1);
        Check.due("18: another COLOUR", x.shot(15, 1, 0, 30), 30);
        Check.due("18: another SHOT", x.shot(14, 2, 0, 30), 30);
        Check.due("18: shot 16", x.shot(16, 0, 0, 1), -100);
        Check.due("18: shot -1", x.shot(-1, 0, 0, 1), -100);
        Check.due("18: colour 3", x.shot(0, 3, 0, 1), -100);
        Check.due("18: colour -1", x.shot(0, -1, 0, 1), -100);
        Check.due("18: what 2", x.shot(0, 0, 2, 1), -100);
        Check.due("18: what -1", x.shot(0, 0, -1, 1), -100);
    }

    private static PrinterLights threeShots() {
        PrinterLights x = new PrinterLights();
        Check.load(x, "s0,1,1,1,1;s1,1,1,1,1;s2,1,1,1,1;");
        return x;
    }

    private static void grade() {
        PrinterLights x = new PrinterLights();
        Check.due("19: no LIST", x.grade(0, 0, 0, -1), PrinterLights.NO);
        x = threeShots();
        Check.due("19: no AIMS", x.grade(0, 0, 0, -1), 0);
        Check.due("19: no AIMS, the lowest", x.grade(0, 0, 0, 2), 1);
        Check.due("19: no such SHOT", x.grade(0, 0, 0, 3), PrinterLights.NO);
        Check.due("19: shot 15", x.grade(0, 0, 0, 15), PrinterLights.NO);
        Check.due("19: shot 16", x.grade(0, 0, 0, 16), PrinterLights.BAD);
        Check.due("19: shot -2", x.grade(0, 0, 0, -2), PrinterLights.BAD);
        Check.due("19: stock 3", x.grade(3, 0, 0, 0), PrinterLights.BAD);
        Check.due("19: stock -1", x.grade(-1, 0, 0, 0), PrinterLights.BAD);
        Check.due("19: bath 2", x.grade(0, 2, 0, 0), PrinterLights.BAD);
        Check.due("19: bath -1", x.grade(0, -1, 0, 0), PrinterLights.BAD);
        Check.due("19: colour 3", x.grade(0, 0, 3, 0), PrinterLights.BAD);
        Check.due("19: colour -1", x.grade(0, 0, -1, 0), PrinterLights.BAD);
        x.shot(1, 0, 1, 255);
        Check.due("19: NONE", x.grade(0, 0, 0, -1), PrinterLights.NONE);
        Check.due("19: NONE of another SHOT", x.grade(0, 0, 0, 0), PrinterLights.NONE);
        Check.due("19: NO ahead of NONE", x.grade(0, 0, 0, 3), PrinterLights.NO);
        Check.due("19: another COLOUR", x.grade(0, 0, 1, 0), 1);
        x.shot(1, 0, 0, 0);
        Check.due("19: by its density", x.grade(0, 0, 0, 1), 44);
        x.rule(1, 0);
        Check.due("19: 250 is off 255", x.grade(0, 0, 0, 1), PrinterLights.NONE);
        x.rule(1, 5);
        Check.due("19: by 5", x.grade(0, 0, 0, 1), 44);
        x.rule(1, 4);
        Check.due("19: not by 4", x.grade(0, 0, 0, 1), PrinterLights.NONE);
    }

    /** AIMS that leave one number of POINTS each, and a SHOT between them that has none. */
    private static void gradeLowest() {
        PrinterLights x = threeShots();
        x.rule(1, 0);
        x.shot(0, 0, 1, 35); // exposure 19: 20 + 15
        x.shot(2, 0, 1, 10); // exposure 11: 4 + 6
        Check.due("19: from SHOT 0", x.grade(0, 0, 0, 0), 29);
        Check.due("19: to SHOT 2", x.grade(0, 0, 0, 2), 21);
        Check.due("19: between, the lowest", x.grade(0, 0, 0, 1), 21);
        Check.due("19: steps", x.grade(0, 0, 0, -1), 8);
        x.shot(0, 0, 1, 10);
        x.shot(2, 0, 1, 35);
        Check.due("19: between, upwards", x.grade(0, 0, 0, 1), 21);
        Check.due("19: steps upwards", x.grade(0, 0, 0, -1), 8);
        x.shot(1, 0, 1, 0); // exposure 1 at most: 4 by 8, cut, is 0 too
        Check.due("19: down and up", x.grade(0, 0, 0, -1), 10 + 18);
        Check.due("19: down to the nearest", x.grade(0, 0, 0, 1), 11);
        x.shot(2, 0, 1, -1);
        Check.due("19: the end stays", x.grade(0, 0, 0, 2), 11);
        x.shot(0, 0, 1, -1);
        Check.due("19: of several the lowest", x.grade(0, 0, 0, 0), 1);
    }

    private static void gradeAsThingsAre() {
        PrinterLights x = threeShots();
        x.rule(1, 0);
        x.shot(0, 2, 1, 60); // exposure 24
        Check.due("19: plain", x.grade(1, 1, 2, 0), 34);
        x.lamp(2, 4);
        Check.due("19: a LAMP", x.grade(1, 1, 2, 0), 38);
        x.bath(1, 0, 900);
        Check.due("19: a BATH", x.grade(1, 1, 2, 0), 36);
        Check.due("19: the other BATH", x.grade(1, 0, 2, 0), 38);
        x.table(1, 2, 3, 61);
        Check.due("19: a TABLE", x.grade(1, 1, 2, 0), PrinterLights.NONE);
        Check.due("19: the other STOCK", x.grade(2, 1, 2, 0), 36);
        Check.due("19: LIGHT is not changed", x.light(0, 2), 1);
    }

    private static void gradeSixteen() {
        PrinterLights x = new PrinterLights();
        Check.load(x, Check.sixteenShots(1));
        x.rule(1, 0);
        for (int shot = 0; shot < 16; shot++) {
            x.shot(shot, 0, 0, 0);
            // exposures 21 and 64: POINTS 1 and 44
            x.shot(shot, 0, 1, shot % 2 == 0 ? 45 : 250);
        }
        Check.due("19: the steps of sixteen SHOTS", x.grade(0, 0, 0, -1), 15 * 43);
        Check.due("19: the last of sixteen SHOTS", x.grade(0, 0, 0, 15), 44);
        Check.due("19: the last but one", x.grade(0, 0, 0, 14), 1);
    }

    private static void frameTone() {
        PrinterLights x = new PrinterLights();
        Check.due("20: no LIST", x.frameTone(0, 0, 0, 0), PrinterLights.NO);
        Check.load(x, "s0,2,34,34,34;e1,1,4;s1,1,30,31,32;");
        Check.due("20: plain", x.frameTone(0, 0, 0, 0), 60);
        Check.due("20: an EFFECT", x.frameTone(0, 0, 0, 1), 40);
        Check.due("20: another SHOT", x.frameTone(0, 0, 1, 2), 45);
        x.shot(1, 1, 0, 27);
        Check.due("20: its density", x.frameTone(0, 0, 1, 2), 60);
        Check.due("20: density of a COLOUR", x.frameTone(0, 0, 2, 2), 50);
        x.lamp(0, 8);
        Check.due("20: a LAMP", x.frameTone(0, 0, 0, 0), 20);
        x.bath(1, 0, 1000);
        Check.due("20: a BATH", x.frameTone(0, 1, 0, 0), 45);
        x.table(2, 0, 2, 10);
        Check.due("20: a TABLE", x.frameTone(2, 0, 0, 0), 10);
        Check.due("20: no such frame", x.frameTone(0, 0, 0, 3), PrinterLights.NO);
        Check.due("20: frame -1", x.frameTone(0, 0, 0, -1), PrinterLights.BAD);
        Check.due("20: stock 3", x.frameTone(3, 0, 0, 0), PrinterLights.BAD);
        Check.due("20: stock -1", x.frameTone(-1, 0, 0, 0), PrinterLights.BAD);
        Check.due("20: bath 2", x.frameTone(0, 2, 0, 0), PrinterLights.BAD);
        Check.due("20: bath -1", x.frameTone(0, -1, 0, 0), PrinterLights.BAD);
        Check.due("20: colour 3", x.frameTone(0, 0, 3, 0), PrinterLights.BAD);
        Check.due("20: colour -1", x.frameTone(0, 0, -1, 0), PrinterLights.BAD);
        Check.due("20: BAD ahead of NO", x.frameTone(0, 0, 3, 3), PrinterLights.BAD);
    }
}
