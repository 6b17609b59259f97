/** Promises 1 to 9. */
public final class TonesTest {
    public static void main(String[] args) {
        newObject();
        table();
        bath();
        lamp();
        rule();
        bathTold();
        feet();
        exposure();
        tone();
        Check.end();
    }

    private static void newObject() {
        PrinterLights x = new PrinterLights();
        int[] first = {0, 4, 20, 60, 110, 160, 205, 235, 250};
        for (int stock = 0; stock < 3; stock++) {
            for (int colour = 0; colour < 3; colour++) {
                for (int k = 0; k < 9; k++) {
                    Check.due("1: table at first", x.table(stock, colour, k, first[k]), first[k]);
                }
            }
        }
        for (int bath = 0; bath < 2; bath++) {
            Check.due("1: STRENGTH", x.bathTold(bath, 0), 800);
            Check.due("1: TIRE", x.bathTold(bath, 1), 5);
            Check.due("1: FEET", x.bathTold(bath, 2), 0);
            Check.due("1: ACTIVITY", x.bathTold(bath, 3), 0);
        }
        for (int what = 0; what < 7; what++) {
            Check.due("1: count " + what, x.count(what), 0);
        }
        Check.due("1: WAIT", x.rule(0, 6), 6);
        Check.due("1: NEAR", x.rule(1, 6), 6);
        Check.due("1: DOUBT", x.rule(2, 0), 0);
        Check.due("1: WEAR", x.rule(3, 4), 4);
        Check.due("1: fault", x.fault(), PrinterLights.NONE);
        Check.due("1: load", x.load(), PrinterLights.NO);
        Check.due("1: no LIST", x.list(0), PrinterLights.NO);
        for (int shot = 0; shot < 16; shot++) {
            for (int colour = 0; colour < 3; colour++) {
                Check.due("1: density", x.shot(shot, colour, 0, 30), 30);
                Check.due("1: AIM", x.shot(shot, colour, 1, -1), -1);
            }
        }
    }

    private static void table() {
        PrinterLights x = new PrinterLights();
        Check.due("2: as the one ahead", x.table(1, 2, 3, 20), 60);
        Check.due("2: less than the one ahead", x.table(1, 2, 3, 19), PrinterLights.NO);
        Check.due("2: as the one behind", x.table(1, 2, 3, 110), 20);
        Check.due("2: more than the one behind", x.table(1, 2, 3, 111), PrinterLights.NO);
        Check.due("2: a NO changed nothing", x.table(1, 2, 3, 60), 110);
        Check.due("2: first, at most the second", x.table(1, 2, 0, 4), 0);
        Check.due("2: first, too much", x.table(1, 2, 0, 5), PrinterLights.NO);
        Check.due("2: second, too little", x.table(1, 2, 1, 3), PrinterLights.NO);
        Check.due("2: last", x.table(1, 2, 8, 255), 250);
        Check.due("2: last, too little", x.table(1, 2, 8, 234), PrinterLights.NO);
        Check.due("2: other tables are as they were", x.table(1, 1, 8, 250), 250);
        Check.due("2: other tables are as they were", x.table(2, 2, 8, 250), 250);
        Check.due("2: the table behind does not count", x.table(0, 0, 8, 240), 250);
        Check.due("2: stock -1", x.table(-1, 0, 0, 0), PrinterLights.BAD);
        Check.due("2: stock 3", x.table(3, 0, 0, 0), PrinterLights.BAD);
        Check.due("2: colour -1", x.table(0, -1, 0, 0), PrinterLights.BAD);
        Check.due("2: colour 3", x.table(0, 3, 0, 0), PrinterLights.BAD);
        Check.due("2: k -1", x.table(0, 0, -1, 0), PrinterLights.BAD);
        Check.due("2: k 9", x.table(0, 0, 9, 255), PrinterLights.BAD);
        Check.due("2: v -1", x.table(0, 0, 0, -1), PrinterLights.BAD);
        Check.due("2: v 256, BAD ahead of NO", x.table(0, 0, 4, 256), PrinterLights.BAD);
    }

    private static void bath() {
        PrinterLights x = new PrinterLights();
        Check.due("3: STRENGTH 1000", x.bath(1, 0, 1000), 800);
        Check.due("3: STRENGTH 0", x.bath(1, 0, 0), 1000);
        Check.due("3: STRENGTH -1", x.bath(1, 0, -1), PrinterLights.BAD);
        Check.due("3: STRENGTH 1001", x.bath(1, 0, 1001), PrinterLights.BAD);
        Check.due("3: told", x.bathTold(1, 0), 0);
        Check.due("3: the other BATH", x.bathTold(0, 0), 800);
        Check.due("3: TIRE 50", x.bath(0, 1, 50), 5);
        Check.due("3: TIRE 1", x.bath(0, 1, 1), 50);
        Check.due("3: TIRE 0", x.bath(0, 1, 0), PrinterLights.BAD);
        Check.due("3: TIRE 51", x.bath(0, 1, 51), PrinterLights.BAD);
        Check.due("3: told", x.bathTold(0, 1), 1);
        Check.due("3: bath 2", x.bath(2, 0, 5), PrinterLights.BAD);
        Check.due("3: bath -1", x.bath(-1, 0, 5), PrinterLights.BAD);
        Check.due("3: what 2", x.bath(0, 2, 5), PrinterLights.BAD);
        Check.due("3: what -1", x.bath(0, -1, 5), PrinterLights.BAD);
    }

    private static void lamp() {
        PrinterLights x = new PrinterLights();
        Check.due("4: 20", x.lamp(2, 20), 0);
        Check.due("4: 0", x.lamp(2, 0), 20);
        Check.due("4: 7", x.lamp(2, 7), 0);
        Check.due("4: 21", x.lamp(2, 21), PrinterLights.BAD);
        Check.due("4: -1", x.lamp(2, -1), PrinterLights.BAD);
        Check.due("4: a BAD changed nothing", x.lamp(2, 7), 7);
        Check.due("4: the other LAMP", x.lamp(1, 0), 0);
        Check.due("4: colour 3", x.lamp(3, 0), PrinterLights.BAD);
        Check.due("4: colour -1", x.lamp(-1, 0), PrinterLights.BAD);
    }

    private static void rule() {
        int[] first = {6, 6, 0, 4};
        int[] low = {1, 0, 0, 1};
        int[] high = {48, 60, 3, 20};
        PrinterLights x = new PrinterLights();
        for (int what = 0; what < 4; what++) {
            Check.due("5: lowest " + what, x.rule(what, low[what]), first[what]);
            Check.due("5: highest " + what, x.rule(what, high[what]), low[what]);
            Check.due("5: too low " + what, x.rule(what, low[what] - 1), PrinterLights.BAD);
            Check.due("5: too high " + what, x.rule(what, high[what] + 1), PrinterLights.BAD);
            Check.due("5: a BAD changed nothing " + what, x.rule(what, low[what]), high[what]);
        }
        Check.due("5: what 4", x.rule(4, 1), PrinterLights.BAD);
        Check.due("5: what -1", x.rule(-1, 1), PrinterLights.BAD);
    }

    private static void bathTold() {
        PrinterLights x = new PrinterLights();
        int[][] activities = {{0, -20}, {39, -20}, {40, -19}, {759, -2}, {760, -1}, {799, -1}, {800, 0}, {839, 0},
            {840, 1}, {1000, 5}};
        for (int[] row : activities) {
            x.bath(1, 0, row[0]);
            Check.due("6: ACTIVITY by " + row[0], x.bathTold(1, 3), row[1]);
            Check.due("6: STRENGTH", x.bathTold(1, 0), row[0]);
        }
        Check.due("6: bath 2", x.bathTold(2, 0), -1000);
        Check.due("6: bath -1", x.bathTold(-1, 3), -1000);
        Check.due("6: what 4", x.bathTold(0, 4), -1000);
        Check.due("6: what -1", x.bathTold(0, -1), -1000);
    }

    private static void feet() {
        PrinterLights x = new PrinterLights();
        Check.due("7: 99", x.feet(0, 99), 800);
        Check.due("7: the 100th", x.feet(0, 1), 795);
        Check.due("7: FEET", x.bathTold(0, 2), 100);
        Check.due("7: 101 to 199", x.feet(0, 99), 795);
        Check.due("7: 200 to 300", x.feet(0, 101), 785);
        Check.due("7: TIRE of another", x.bath(0, 1, 50), 5);
        Check.due("7: 10000", x.feet(0, 10000), 0);
        Check.due("7: FEET", x.bathTold(0, 2), 10300);
        Check.due("7: the other BATH", x.bathTold(1, 2), 0);
        Check.due("7: 0", x.feet(0, 0), PrinterLights.BAD);
        Check.due("7: 10001", x.feet(0, 10001), PrinterLights.BAD);
        Check.due("7: bath 2", x.feet(2, 1), PrinterLights.BAD);
        Check.due("7: bath -1", x.feet(-1, 1), PrinterLights.BAD);
        Check.due("7: a BAD changed nothing", x.bathTold(0, 2), 10300);
        PrinterLights y = new PrinterLights();
        y.bath(1, 0, 7);
        Check.due("7: not below 0", y.feet(1, 200), 0);
    }

    private static void exposure() {
        PrinterLights x = new PrinterLights();
        Check.due("8: plain", x.exposure(1, 30, 10, 1), 40);
        Check.due("8: below 0", x.exposure(0, 1, 60, 0), -39);
        Check.due("8: above 64", x.exposure(0, 50, 0, 0), 70);
        x.lamp(1, 20);
        Check.due("8: its LAMP", x.exposure(1, 30, 10, 1), 20);
        Check.due("8: another LAMP", x.exposure(2, 30, 10, 1), 40);
        x.bath(1, 0, 1000);
        Check.due("8: its BATH", x.exposure(1, 30, 10, 1), 25);
        Check.due("8: another BATH", x.exposure(1, 30, 10, 0), 20);
        x.bath(0, 0, 0);
        Check.due("8: the least", x.exposure(1, 1, 60, 0), -79);
        int[][] bad = {{-1, 1, 0, 0}, {3, 1, 0, 0}, {0, 0, 0, 0}, {0, 51, 0, 0}, {0, 1, -1, 0}, {0, 1, 61, 0},
            {0, 1, 0, -1}, {0, 1, 0, 2}};
        for (int[] b : bad) {
            Check.due("8: " + b[0] + " " + b[1] + " " + b[2] + " " + b[3], x.exposure(b[0], b[1], b[2], b[3]), -1000);
        }
    }

    private static void tone() {
        PrinterLights x = new PrinterLights();
        Check.due("9: at 0", x.tone(0, 0, 10, 30, 0, 1), 0);
        Check.due("9: below 0", x.tone(0, 0, 1, 60, 0, 1), 0);
        Check.due("9: at 8", x.tone(0, 0, 18, 30, 0, 1), 4);
        Check.due("9: at 9, 4 and 16 by 8", x.tone(0, 0, 19, 30, 0, 1), 6);
        Check.due("9: at 33, 110 and 50 by 8, cut", x.tone(0, 0, 43, 30, 0, 1), 116);
        Check.due("9: at 63", x.tone(0, 0, 43, 0, 0, 1), 248);
        Check.due("9: at 64", x.tone(0, 0, 44, 0, 0, 1), 250);
        Check.due("9: above 64", x.tone(0, 0, 50, 0, 0, 1), 250);
        // 250 is a density of 60 - 50 = 10: exposure 60, 235 and 15 by 2, cut: 242, a density of 12, exposure 58
        Check.due("9: a COPY", x.tone(0, 0, 50, 0, 0, 2), 242);
        Check.due("9: a COPY of a COPY", x.tone(0, 0, 50, 0, 0, 3), 238);
        Check.due("9: generation 4", x.tone(0, 0, 50, 0, 0, 4), 236);
        Check.due("9: generation 5", x.tone(0, 0, 50, 0, 0, 5), 236);
        Check.due("9: at 64 of the last TABLE", x.tone(2, 2, 44, 0, 0, 1), 250);
        x.table(0, 2, 1, 20);
        Check.due("9: at 1", x.tone(0, 2, 11, 30, 0, 1), 2);
        x.table(2, 1, 0, 4);
        Check.due("9: another TABLE, below 0", x.tone(2, 1, 1, 60, 0, 1), 4);
        Check.due("9: below 0 in a COPY", x.tone(2, 1, 1, 60, 0, 2), 4);
        x.table(2, 1, 8, 255);
        Check.due("9: 255 is a density of 9", x.tone(2, 1, 45, 0, 0, 2), 235);
        x.lamp(1, 3);
        Check.due("9: a LAMP sank for all COPIES", x.tone(2, 1, 50, 0, 0, 2), x.tone(2, 1, 50, 9, 0, 1));
        int[][] bad = {{-1, 0, 1, 0, 0, 1}, {3, 0, 1, 0, 0, 1}, {0, -1, 1, 0, 0, 1}, {0, 3, 1, 0, 0, 1},
            {0, 0, 0, 0, 0, 1}, {0, 0, 51, 0, 0, 1}, {0, 0, 1, -1, 0, 1}, {0, 0, 1, 61, 0, 1}, {0, 0, 1, 0, -1, 1},
            {0, 0, 1, 0, 2, 1}, {0, 0, 1, 0, 0, 0}, {0, 0, 1, 0, 0, 6}};
        for (int i = 0; i < bad.length; i++) {
            int[] b = bad[i];
            Check.due("9: bad row " + i, x.tone(b[0], b[1], b[2], b[3], b[4], b[5]), PrinterLights.BAD);
        }
    }
}
