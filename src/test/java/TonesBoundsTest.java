/** The boundaries that the document names in part 1 of its Terms and in the promises 1 to 9, sentence by sentence. */
public final class TonesBoundsTest {
    private static final int BAD = PrinterLights.BAD, NO = PrinterLights.NO, NONE = PrinterLights.NONE;
    private static final int BAD_BELOW = -1000, BAD_SHOT = -100;
    private static final int[] AT_FIRST = {0, 4, 20, 60, 110, 160, 205, 235, 250};

    public static void main(String[] args) {
        colours();
        points();
        stocks();
        tableNumbers();
        betweenTwo();
        exposureBelowAndAbove();
        baths();
        strength();
        tire();
        feetInAll();
        tiredByHundreds();
        activity();
        lampsSunk();
        densities();
        exposureSum();
        generations();
        densityOfTone();
        firstGeneration();
        newObject();
        newObjectHasNoList();
        tablePlaces();
        tableBad();
        tableNo();
        bathBad();
        lampBad();
        ruleBad();
        bathToldBad();
        feetTaken();
        exposureBad();
        toneBad();
        Doc.termsAreWhole(1);
        Doc.promisesAreWhole(1, 9);
        Check.end();
    }

    private static PrinterLights fresh() {
        return new PrinterLights();
    }

    private static PrinterLights oneShot() {
        return Check.loaded("s0,1,1,1,1;");
    }

    /** POINTS and a density by which EXPOSURE is e (0 to 70), as things are at first. */
    private static int toneAt(PrinterLights x, int stock, int colour, int e) {
        return e <= 40 ? x.tone(stock, colour, e + 10, 30, 0, 1) : x.tone(stock, colour, e - 20, 0, 0, 1);
    }

    // ---- Terms, part 1

    private static void colours() {
        Doc.terms(1, "COLOURS 0 to 2.");
        Check.range("table", 0, 2, BAD, c -> fresh().table(0, c, 0, 0));
        Check.range("lamp", 0, 2, BAD, c -> fresh().lamp(c, 0));
        Check.range("exposure", 0, 2, BAD_BELOW, c -> fresh().exposure(c, 1, 0, 0));
        Check.range("tone", 0, 2, BAD, c -> fresh().tone(0, c, 1, 0, 0, 1));
        Check.range("light", 0, 2, BAD, c -> oneShot().light(0, c));
        Check.range("shot", 0, 2, BAD_SHOT, c -> fresh().shot(0, c, 0, 0));
        Check.range("grade", 0, 2, BAD, c -> oneShot().grade(0, 0, c, 0));
        Check.range("frameTone", 0, 2, BAD, c -> oneShot().frameTone(0, 0, c, 0));
        Check.range("strip", 0, 2, BAD, c -> fresh().strip(0, c, 0));
    }

    private static void points() {
        Doc.terms(1, "LIGHT is told in POINTS, 1 to 50.");
        Check.range("exposure", 1, 50, BAD_BELOW, p -> fresh().exposure(0, p, 0, 0));
        Check.range("tone", 1, 50, BAD, p -> fresh().tone(0, 0, p, 0, 0, 1));
        String[] asItems = {"s0,1,%d,1,1;", "s0,1,1,%d,1;", "s0,1,1,1,%d;"};
        for (String item : asItems) {
            Check.sound(String.format(item, 1));
            Check.sound(String.format(item, 50));
            Check.faulty("|" + String.format(item, 0));
            Check.faulty("|" + String.format(item, 51));
            Check.faulty("|" + String.format(item, 9999));
        }
        PrinterLights x = Check.loaded("s0,1,1,50,1;s1,1,50,1,50;");
        Check.due("the least LIGHT", x.light(0, 0), 1);
        Check.due("the most LIGHT", x.light(0, 1), 50);
        Check.due("the most LIGHT", x.light(1, 2), 50);
    }

    private static void stocks() {
        Doc.terms(1, "STOCKS 0 to 2 have a TABLE of each COLOUR");
        Check.range("table", 0, 2, BAD, s -> fresh().table(s, 0, 0, 0));
        Check.range("tone", 0, 2, BAD, s -> fresh().tone(s, 0, 1, 0, 0, 1));
        Check.range("grade", 0, 2, BAD, s -> oneShot().grade(s, 0, 0, 0));
        Check.range("frameTone", 0, 2, BAD, s -> oneShot().frameTone(s, 0, 0, 0));
        PrinterLights x = fresh();
        for (int table = 0; table < 9; table++) {
            x.table(table / 3, table % 3, 8, 240 + table);
        }
        for (int table = 0; table < 9; table++) {
            Check.due("a TABLE of its own, " + table, toneAt(x, table / 3, table % 3, 64), 240 + table);
        }
    }

    private static void tableNumbers() {
        Doc.terms(1, "TONE (0 to 255) at EXPOSURE 0, 8, 16, .. 64 (nine numbers, none less than the one ahead;"
            + " at first 0, 4, 20, 60, 110, 160, 205, 235, 250 for all).");
        Check.due("0", fresh().table(0, 0, 0, 0), 0);
        Check.due("-1", fresh().table(0, 0, 0, -1), BAD);
        Check.due("255", fresh().table(0, 0, 8, 255), 250);
        Check.due("256", fresh().table(0, 0, 8, 256), BAD);
        for (int table = 0; table < 9; table++) {
            for (int k = 0; k <= 8; k++) {
                Check.due("at 8 times " + k, toneAt(fresh(), table / 3, table % 3, 8 * k), AT_FIRST[k]);
            }
        }
        PrinterLights x = fresh();
        for (int k = 8; k >= 0; k--) {
            Check.due("all 255, " + k, x.table(2, 2, k, 255), AT_FIRST[k]);
        }
        Check.due("255 at 0", toneAt(x, 2, 2, 0), 255);
        for (int k = 0; k <= 8; k++) {
            Check.due("all 0, " + k, x.table(2, 2, k, 0), 255);
        }
        Check.due("0 at 64", toneAt(x, 2, 2, 64), 0);
    }

    private static void betweenTwo() {
        Doc.terms(1, "Between two: in parts by how far, cut;");
        PrinterLights x = fresh();
        int[] due = {205, 208, 212, 216, 220, 223, 227, 231, 235};
        for (int i = 0; i < due.length; i++) {
            Check.due("30 by " + i + " of 8 parts", toneAt(x, 0, 0, 48 + i), due[i]);
        }
        for (int k = 8; k >= 1; k--) {
            x.table(1, 0, k, 255);
        }
        int[] steepest = {0, 31, 63, 95, 127, 159, 191, 223, 255, 255};
        for (int e = 0; e < steepest.length; e++) {
            Check.due("from 0 to 255, at " + e, toneAt(x, 1, 0, e), steepest[e]);
        }
        Check.due("the last part", toneAt(x, 0, 0, 63), 248);
    }

    private static void exposureBelowAndAbove() {
        Doc.terms(1, "EXPOSURE below 0 is as 0, above 64 as 64.");
        PrinterLights x = fresh();
        x.table(0, 0, 0, 3);
        Check.due("at 0", x.tone(0, 0, 10, 30, 0, 1), 3);
        Check.due("at -1", x.tone(0, 0, 9, 30, 0, 1), 3);
        Check.due("at -8", x.tone(0, 0, 2, 30, 0, 1), 3);
        Check.due("at -39", x.tone(0, 0, 1, 60, 0, 1), 3);
        Check.due("at 64", x.tone(0, 0, 44, 0, 0, 1), 250);
        Check.due("at 65", x.tone(0, 0, 45, 0, 0, 1), 250);
        Check.due("at 70", x.tone(0, 0, 50, 0, 0, 1), 250);
        x.bath(0, 0, 0);
        x.lamp(0, 20);
        Check.due("at -79, the least of all", x.tone(0, 0, 1, 60, 0, 1), 3);
        x.bath(0, 0, 1000);
        x.lamp(0, 0);
        Check.due("at 75, the most of all", x.tone(0, 0, 50, 0, 0, 1), 250);
        Check.due("EXPOSURE itself is not cut", x.exposure(0, 50, 0, 0), 75);
    }

    private static void baths() {
        Doc.terms(1, "BATHS 0, 1 have");
        Check.range("bath", 0, 1, BAD, b -> fresh().bath(b, 0, 0));
        Check.range("bathTold", 0, 1, BAD_BELOW, b -> fresh().bathTold(b, 0));
        Check.range("feet", 0, 1, BAD, b -> fresh().feet(b, 1));
        Check.range("exposure", 0, 1, BAD_BELOW, b -> fresh().exposure(0, 1, 0, b));
        Check.range("tone", 0, 1, BAD, b -> fresh().tone(0, 0, 1, 0, b, 1));
        Check.range("grade", 0, 1, BAD, b -> oneShot().grade(0, b, 0, 0));
        Check.range("frameTone", 0, 1, BAD, b -> oneShot().frameTone(0, b, 0, 0));
        Check.range("run", 0, 1, BAD, b -> oneShot().run(b));
    }

    private static void strength() {
        Doc.terms(1, "STRENGTH (0 to 1000; 800 at first)");
        Check.range("STRENGTH of 0", 0, 1000, BAD, v -> fresh().bath(0, 0, v));
        Check.range("STRENGTH of 1", 0, 1000, BAD, v -> fresh().bath(1, 0, v));
        Check.due("at first", fresh().bathTold(0, 0), 800);
        Check.due("at first", fresh().bathTold(1, 0), 800);
    }

    private static void tire() {
        Doc.terms(1, "TIRE (1 to 50: so much of STRENGTH goes for each 100 feet; 5 at first)");
        Check.range("TIRE of 0", 1, 50, BAD, v -> fresh().bath(0, 1, v));
        Check.range("TIRE of 1", 1, 50, BAD, v -> fresh().bath(1, 1, v));
        Check.due("at first", fresh().bathTold(0, 1), 5);
        Check.due("at first", fresh().bathTold(1, 1), 5);
        int[] tires = {1, 5, 50};
        for (int tire : tires) {
            PrinterLights x = fresh();
            x.bath(1, 1, tire);
            Check.due("TIRE " + tire + ", 100 feet", x.feet(1, 100), 800 - tire);
            Check.due("TIRE " + tire + ", 1000 feet", x.feet(1, 900), 800 - 10 * tire);
        }
    }

    private static void feetInAll() {
        Doc.terms(1, "FEET that went through in all. For each foot that goes through, FEET grow by 1;");
        PrinterLights x = fresh();
        Check.due("none at first", x.bathTold(0, 2), 0);
        x.feet(0, 1);
        Check.due("one", x.bathTold(0, 2), 1);
        for (int i = 0; i < 500; i++) {
            x.feet(0, 10000);
        }
        Check.due("as many as there may be", x.bathTold(0, 2), 5000001);
        Check.due("none through the other", x.bathTold(1, 2), 0);
    }

    private static void tiredByHundreds() {
        Doc.terms(1, "where FEET can be divided by 100 then, STRENGTH is TIRE less (not below 0).");
        PrinterLights x = fresh();
        Check.due("99", x.feet(0, 99), 800);
        Check.due("100", x.feet(0, 1), 795);
        Check.due("101", x.feet(0, 1), 795);
        Check.due("199", x.feet(0, 98), 795);
        Check.due("300: two hundreds at once", x.feet(0, 101), 785);
        x.bath(0, 1, 7);
        Check.due("399: by the new TIRE, not yet", x.feet(0, 99), 785);
        Check.due("400: by the new TIRE", x.feet(0, 1), 778);
        x.bath(0, 0, 14);
        Check.due("500", x.feet(0, 100), 7);
        Check.due("600: 0 itself", x.feet(0, 100), 0);
        Check.due("700: not below 0", x.feet(0, 100), 0);
        x.bath(0, 0, 6);
        Check.due("800: not below 0 from 6", x.feet(0, 100), 0);
        x.bath(0, 0, 1000);
        x.bath(0, 1, 50);
        Check.due("10800: not below 0 by many at once", x.feet(0, 10000), 0);
        x.bath(0, 0, 60);
        Check.due("10900: told anew, it tires again", x.feet(0, 100), 10);
    }

    private static void activity() {
        Doc.terms(1, "ACTIVITY is (STRENGTH less 800) by 40, rounded down.");
        int[][] rows = {{0, -20}, {1, -20}, {39, -20}, {40, -19}, {41, -19}, {720, -2}, {759, -2}, {760, -1}, {761, -1},
            {799, -1}, {800, 0}, {801, 0}, {839, 0}, {840, 1}, {999, 4}, {1000, 5}};
        for (int[] row : rows) {
            PrinterLights x = fresh();
            x.bath(1, 0, row[0]);
            Check.due("by STRENGTH " + row[0], x.bathTold(1, 3), row[1]);
            Check.due("in an EXPOSURE by STRENGTH " + row[0], x.exposure(0, 30, 0, 1), 50 + row[1]);
        }
    }

    private static void lampsSunk() {
        Doc.terms(1, "LAMPS of COLOURS have SUNK by 0 to 20 POINTS (0 at first).");
        for (int colour = 0; colour < 3; colour++) {
            int c = colour;
            Check.range("lamp " + c, 0, 20, BAD, v -> fresh().lamp(c, v));
            Check.due("at first " + c, fresh().lamp(c, 20), 0);
        }
        PrinterLights x = fresh();
        x.lamp(1, 20);
        Check.due("its COLOUR", x.exposure(1, 30, 0, 0), 30);
        Check.due("another COLOUR", x.exposure(0, 30, 0, 0), 50);
        Check.due("another COLOUR", x.exposure(2, 30, 0, 0), 50);
    }

    private static void densities() {
        Doc.terms(1, "EXPOSURE of a COLOUR by POINTS p through a NEGATIVE's density d (0 to 60) in a BATH");
        Check.range("exposure", 0, 60, BAD_BELOW, d -> fresh().exposure(0, 50, d, 0));
        Check.range("tone", 0, 60, BAD, d -> fresh().tone(0, 0, 50, d, 0, 1));
        Check.due("density 0", fresh().exposure(0, 50, 0, 0), 70);
        Check.due("density 60", fresh().exposure(0, 50, 60, 0), 10);
    }

    private static void exposureSum() {
        Doc.terms(1, "p and 20, less d, less what the LAMP SANK, and ACTIVITY.");
        PrinterLights x = fresh();
        Check.due("0", x.exposure(2, 1, 21, 1), 0);
        Check.due("-1", x.exposure(2, 1, 22, 1), -1);
        x.lamp(2, 20);
        x.bath(1, 0, 0);
        Check.due("the least of all", x.exposure(2, 1, 60, 1), 1 + 20 - 60 - 20 - 20);
        x.lamp(2, 0);
        x.bath(1, 0, 1000);
        Check.due("the most of all", x.exposure(2, 50, 0, 1), 50 + 20 + 5);
    }

    private static void generations() {
        Doc.terms(1, "A COPY of generation g (1 to 5)");
        Check.range("tone", 1, 5, BAD, g -> fresh().tone(0, 0, 25, 30, 0, g));
        // TONE 250, density 10, EXPOSURE 60: 242, 12, 58: 238, 13, 57: 236, 13, 57: 236
        int[] due = {250, 242, 238, 236, 236};
        for (int g = 1; g <= 5; g++) {
            Check.due("generation " + g, fresh().tone(0, 0, 50, 0, 0, g), due[g - 1]);
        }
        // EXPOSURE 40: 160, density 28, EXPOSURE 32: 110, 38, 22: 50, 50, 10: 8, 59, 1: 0
        int[] darker = {160, 110, 50, 8, 0};
        for (int g = 1; g <= 5; g++) {
            Check.due("darker, generation " + g, fresh().tone(0, 0, 40, 20, 0, g), darker[g - 1]);
        }
    }

    private static void densityOfTone() {
        // 60 can't come about: 255 by 5 is 51
        Doc.terms(1, "the TONE of the one ahead is taken as a density 60 less (TONE by 5, cut; 60 at most),"
            + " printed again by POINTS p on the same STOCK in the same BATH;");
        int[][] rows = {{255, 247}, {254, 244}, {250, 242}, {249, 240}};
        for (int[] row : rows) {
            PrinterLights x = fresh();
            x.table(1, 2, 8, row[0]);
            Check.due("TONE " + row[0], x.tone(1, 2, 50, 0, 1, 1), row[0]);
            Check.due("a COPY of TONE " + row[0], x.tone(1, 2, 50, 0, 1, 2), row[1]);
        }
        PrinterLights y = fresh();
        Check.due("TONE 4", y.tone(0, 0, 48, 60, 0, 1), 4);
        Check.due("TONE 4 is a density of 60", y.tone(0, 0, 48, 60, 0, 2), 4);
        y.table(0, 0, 1, 5);
        Check.due("TONE 5", y.tone(0, 0, 48, 60, 0, 1), 5);
        Check.due("TONE 5 is a density of 59", y.tone(0, 0, 48, 60, 0, 2), 6);
        PrinterLights z = fresh();
        z.bath(1, 0, 1000);
        z.lamp(0, 3);
        // EXPOSURE 42: 160 and 45 by 4, cut, is 171, density 26, EXPOSURE 36: 135
        Check.due("its BATH and its LAMP for the print", z.tone(0, 0, 40, 20, 1, 1), 171);
        Check.due("its BATH and its LAMP for the COPY", z.tone(0, 0, 40, 20, 1, 2), 135);
    }

    private static void firstGeneration() {
        Doc.terms(1, "g 1 is the print of the NEGATIVE itself.");
        PrinterLights x = fresh();
        for (int e = 0; e <= 64; e += 8) {
            Check.due("at " + e, toneAt(x, 0, 1, e), AT_FIRST[e / 8]);
        }
    }

    // ---- promise 1

    private static void newObject() {
        Doc.promise(1, "As told; an empty TEXT");
        PrinterLights x = fresh();
        Check.due("bytes of THE TEXT", x.count(0), 0);
        Check.due("no FAULT", x.fault(), NONE);
        Check.due("not to be LOADED", x.load(), NO);
        Check.due("was not long", x.clear(), 0);
        for (int what = 1; what <= 6; what++) {
            Check.due("count " + what, x.count(what), 0);
        }
        int[] rules = {6, 6, 0, 4};
        for (int what = 0; what < rules.length; what++) {
            Check.due("rule " + what, x.rule(what, 1), rules[what]);
        }
        for (int reel = 0; reel < 8; reel++) {
            Check.due("REEL " + reel + " is not told", x.lose(reel, false), NO);
        }
    }

    private static void newObjectHasNoList() {
        Doc.promise(1, "no LIST.");
        PrinterLights x = fresh();
        Check.due("light", x.light(0, 0), NO);
        Check.due("shotOf", x.shotOf(0), NO);
        Check.due("soon", x.soon(-1), NO);
        for (int what = 0; what <= 4; what++) {
            Check.due("list " + what, x.list(what), NO);
        }
        Check.due("grade", x.grade(0, 0, 0, -1), NO);
        Check.due("frameTone", x.frameTone(0, 0, 0, 0), NO);
        Check.due("edge", x.edge(0), NO);
        Check.due("missing", x.missing(), NO);
        Check.due("where", x.where(0, 0), NO);
        Check.due("splice", x.splice(0), NO);
        Check.due("run", x.run(0), NO);
        Check.due("mend", x.mend(), 0);
    }

    // ---- promise 2

    private static void tablePlaces() {
        Doc.promise(2, "TONE at 8 k (0 to 8): what it was.");
        Check.range("k", 0, 8, BAD, k -> fresh().table(2, 2, k, AT_FIRST[Math.max(0, Math.min(8, k))]));
        PrinterLights x = fresh();
        for (int k = 8; k >= 0; k--) {
            Check.due("what it was at " + k, x.table(0, 2, k, AT_FIRST[k] + 3), AT_FIRST[k]);
            Check.due("what it was then at " + k, x.table(0, 2, k, AT_FIRST[k] + 2), AT_FIRST[k] + 3);
        }
    }

    private static void tableBad() {
        Doc.promise(2, "BAD;");
        Check.range("stock", 0, 2, BAD, s -> fresh().table(s, 2, 8, 250));
        Check.range("colour", 0, 2, BAD, c -> fresh().table(2, c, 8, 250));
        PrinterLights x = fresh();
        int[] refused = {Integer.MIN_VALUE, -1, 256, Integer.MAX_VALUE};
        for (int v : refused) {
            for (int k = 0; k <= 8; k++) {
                Check.due("v " + v + " at " + k + ", ahead of NO", x.table(0, 0, k, v), BAD);
            }
        }
        Check.due("v 0", x.table(0, 0, 0, 0), 0);
        Check.due("v 255", x.table(0, 0, 8, 255), 250);
    }

    private static void tableNo() {
        Doc.promise(2, "NO: it would be less than the one ahead, more than the one behind.");
        for (int k = 0; k <= 8; k++) {
            PrinterLights x = fresh();
            if (k > 0) {
                Check.due("less than the one ahead, " + k, x.table(1, 1, k, AT_FIRST[k - 1] - 1), k == 1 ? BAD : NO);
                Check.due("nothing changed, " + k, x.table(1, 1, k, AT_FIRST[k - 1]), AT_FIRST[k]);
                Check.due("as the one ahead, " + k, x.table(1, 1, k, AT_FIRST[k]), AT_FIRST[k - 1]);
            }
            if (k < 8) {
                Check.due("more than the one behind, " + k, x.table(1, 1, k, AT_FIRST[k + 1] + 1), NO);
                Check.due("nothing changed, " + k, x.table(1, 1, k, AT_FIRST[k + 1]), AT_FIRST[k]);
                Check.due("as the one behind, " + k, x.table(1, 1, k, AT_FIRST[k]), AT_FIRST[k + 1]);
            }
        }
        PrinterLights y = fresh();
        Check.due("the first has none ahead", y.table(1, 1, 0, 0), 0);
        Check.due("the last has none behind", y.table(1, 1, 8, 255), 250);
        y.table(1, 1, 0, 2);
        Check.due("0 is less than 2", y.table(1, 1, 1, 1), NO);
    }

    // ---- promises 3 to 9

    private static void bathBad() {
        Doc.promise(3, "STRENGTH (what = 0), TIRE (1) of a BATH: what it was. BAD.");
        Check.range("bath", 0, 1, BAD, b -> fresh().bath(b, 1, 1));
        Check.range("what", 0, 1, BAD, w -> fresh().bath(1, w, 1));
        PrinterLights x = fresh();
        Check.due("STRENGTH 1000", x.bath(1, 0, 1000), 800);
        Check.due("STRENGTH 0", x.bath(1, 0, 0), 1000);
        Check.due("STRENGTH 1001", x.bath(1, 0, 1001), BAD);
        Check.due("STRENGTH -1", x.bath(1, 0, -1), BAD);
        Check.due("what STRENGTH was", x.bath(1, 0, 800), 0);
        Check.due("TIRE 50", x.bath(1, 1, 50), 5);
        Check.due("TIRE 1", x.bath(1, 1, 1), 50);
        Check.due("TIRE 51", x.bath(1, 1, 51), BAD);
        Check.due("TIRE 0", x.bath(1, 1, 0), BAD);
        Check.due("what TIRE was", x.bath(1, 1, 5), 1);
        Check.due("the other BATH", x.bath(0, 0, 800), 800);
        Check.due("the other BATH", x.bath(0, 1, 5), 5);
    }

    private static void lampBad() {
        Doc.promise(4, "A LAMP has SUNK by v: what it had. BAD.");
        Check.range("colour", 0, 2, BAD, c -> fresh().lamp(c, 20));
        Check.range("v", 0, 20, BAD, v -> fresh().lamp(2, v));
        PrinterLights x = fresh();
        Check.due("20", x.lamp(0, 20), 0);
        Check.due("21", x.lamp(0, 21), BAD);
        Check.due("-1", x.lamp(0, -1), BAD);
        Check.due("what it had", x.lamp(0, 0), 20);
        Check.due("what it had", x.lamp(0, 0), 0);
    }

    private static void ruleBad() {
        Doc.promise(5, "WAIT (what = 0), NEAR (1), DOUBT (2), WEAR (3): what it was. BAD.");
        Check.range("what", 0, 3, BAD, w -> fresh().rule(w, 3));
        int[][] rows = {{1, 48, 6}, {0, 60, 6}, {0, 3, 0}, {1, 20, 4}};
        for (int what = 0; what < rows.length; what++) {
            int w = what;
            Check.range("rule " + w, rows[w][0], rows[w][1], BAD, v -> fresh().rule(w, v));
            PrinterLights x = fresh();
            Check.due("what it was at first, " + w, x.rule(w, rows[w][1]), rows[w][2]);
            Check.due("too large, " + w, x.rule(w, rows[w][1] + 1), BAD);
            Check.due("what it was, " + w, x.rule(w, rows[w][0]), rows[w][1]);
            Check.due("too small, " + w, x.rule(w, rows[w][0] - 1), BAD);
            Check.due("what it was, " + w, x.rule(w, rows[w][0]), rows[w][0]);
        }
    }

    private static void bathToldBad() {
        Doc.promise(6, "0 STRENGTH, 1 TIRE, 2 FEET, 3 ACTIVITY (it may be below 0: BAD answers -1000).");
        Check.range("bath", 0, 1, BAD_BELOW, b -> fresh().bathTold(b, 3));
        Check.range("what", 0, 3, BAD_BELOW, w -> fresh().bathTold(1, w));
        PrinterLights x = fresh();
        x.bath(0, 0, 799);
        Check.due("ACTIVITY -1 is no BAD", x.bathTold(0, 3), -1);
        x.bath(0, 0, 0);
        Check.due("the least ACTIVITY", x.bathTold(0, 3), -20);
        Check.due("the other BATH", x.bathTold(1, 3), 0);
    }

    private static void feetTaken() {
        Doc.promise(7, "n FEET (1 to 10000) of others' film go through a BATH: STRENGTH then. BAD.");
        Check.range("n", 1, 10000, BAD, n -> fresh().feet(1, n));
        Check.range("bath", 0, 1, BAD, b -> fresh().feet(b, 10000));
        PrinterLights x = fresh();
        Check.due("10000", x.feet(1, 10000), 300);
        Check.due("10001", x.feet(1, 10001), BAD);
        Check.due("0", x.feet(1, 0), BAD);
        Check.due("-1", x.feet(1, -1), BAD);
        Check.due("FEET", x.bathTold(1, 2), 10000);
        Check.due("STRENGTH", x.bathTold(1, 0), 300);
        Check.due("1", x.feet(1, 1), 300);
    }

    private static void exposureBad() {
        Doc.promise(8, "EXPOSURE. BAD -1000.");
        Check.range("colour", 0, 2, BAD_BELOW, c -> fresh().exposure(c, 50, 60, 1));
        Check.range("points", 1, 50, BAD_BELOW, p -> fresh().exposure(2, p, 0, 1));
        Check.range("density", 0, 60, BAD_BELOW, d -> fresh().exposure(2, 50, d, 1));
        Check.range("bath", 0, 1, BAD_BELOW, b -> fresh().exposure(2, 1, 60, b));
        Check.due("EXPOSURE -1 is no BAD", fresh().exposure(0, 39, 60, 0), -1);
        Check.due("EXPOSURE -2 is no NO", fresh().exposure(0, 38, 60, 0), -2);
    }

    private static void toneBad() {
        Doc.promise(9, "TONE of a COPY of generation g. BAD.");
        Check.range("stock", 0, 2, BAD, s -> fresh().tone(s, 2, 50, 60, 1, 5));
        Check.range("colour", 0, 2, BAD, c -> fresh().tone(2, c, 50, 60, 1, 5));
        Check.range("points", 1, 50, BAD, p -> fresh().tone(2, 2, p, 60, 1, 5));
        Check.range("density", 0, 60, BAD, d -> fresh().tone(2, 2, 50, d, 1, 5));
        Check.range("bath", 0, 1, BAD, b -> fresh().tone(2, 2, 50, 60, b, 5));
        Check.range("g", 1, 5, BAD, g -> fresh().tone(2, 2, 50, 60, 1, g));
    }
}
