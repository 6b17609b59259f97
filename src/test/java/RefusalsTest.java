import java.util.ArrayList;
import java.util.Arrays;
import java.util.List;

/**
 * The last lines of the Terms: every refused call of every promise answers the first of BAD, NO, FULL, and changes
 * nothing. What an object is like is looked at through all its calls, beside a twin without the refused call.
 */
public final class RefusalsTest {
    private static final int BAD = PrinterLights.BAD, NO = PrinterLights.NO, FULL = PrinterLights.FULL;
    private static final int BAD_BELOW = -1000, BAD_SHOT = -100;
    private static final int VIEWS = 3;

    /** A new object, and one in which all is told, KEPT, FULL, OPEN. */
    private static final int EMPTY = 0, RICH = 1;

    private interface Call {
        int on(PrinterLights x);
    }

    private record Named(String name, Call call) {
    }

    private static final int[][][] TWINS = new int[2][VIEWS][];

    public static void main(String[] args) {
        for (int state = EMPTY; state <= RICH; state++) {
            for (int view = 0; view < VIEWS; view++) {
                TWINS[state][view] = look(make(state), view);
            }
        }
        bad();
        no();
        full();
        ofSeveralTheFirst();
        askingChangesNothing();
        looksSeeChanges();
        Doc.termsAreWhole(7);
        Check.end();
    }

    // ---- states, and what they look like

    private static PrinterLights make(int state) {
        PrinterLights x = new PrinterLights();
        if (state == RICH) {
            tellTones(x);
            Check.load(x, "s0,3,9,40,9;f2,20,1,9;s1,2,20,20,30;e1,1,5;s2,1,1,1,1;c3;");
            tellShots(x, 1);
            x.run(0);
            x.keep();
            Check.load(x, "s0,2,5,5,5;s1,2,30,7,7;f1,9,9,9;s2,2,8,8,8;e0,1,2;s3,3,1,50,1;c7;");
            tellShots(x, 2);
            x.keep();
            tellShots(x, 3);
            for (int i = 0; i < 5; i++) {
                x.run(1);
            }
            fill(x);
        }
        return x;
    }

    private static void tellTones(PrinterLights x) {
        x.table(1, 1, 4, 111);
        x.table(0, 0, 0, 2);
        x.bath(0, 0, 900);
        x.bath(1, 1, 9);
        x.lamp(1, 3);
        x.rule(0, 9);
        x.rule(1, 50);
        x.rule(2, 1);
        x.rule(3, 20);
        x.feet(0, 150);
    }

    private static void tellShots(PrinterLights x, int time) {
        x.shot(0, 0, 0, 20 + time);
        x.shot(1, 0, 1, 60 + time);
        x.shot(15, 2, 1, 200 + time);
        x.reel(time, 10 * time, 50);
        x.reel(6, 0, time);
        x.lose(6, time != 2);
        x.from(0, time, 10 * time);
        x.from(1, 6, time);
    }

    /** THE TEXT has 400 bytes and a FAULT at 0, there are 20 STRIPS and 8 ORDERS. */
    private static void fill(PrinterLights x) {
        x.clear();
        Check.write(x, "s0,9".repeat(100));
        for (int i = 0; i < 20; i++) {
            x.strip(5 * i, 1, i < 10 ? 0 : -2);
        }
        for (int k = 0; k < 8; k++) {
            x.order(3 + k, 20, 1 + k % 3, k % 4);
        }
    }

    private static int[] look(PrinterLights x, int view) {
        List<Integer> seen = new ArrayList<>();
        if (view == 0) {
            lookAtList(x, seen);
            lookAtTheRest(x, seen);
        } else if (view == 1) {
            lookByTelling(x, seen);
        } else {
            for (int i = 0; i < 3; i++) {
                seen.add(x.back());
                lookAtList(x, seen);
            }
        }
        return seen.stream().mapToInt(Integer::intValue).toArray();
    }

    private static void lookAtList(PrinterLights x, List<Integer> seen) {
        for (int what = 0; what <= 4; what++) {
            seen.add(x.list(what));
        }
        for (int frame = 0; frame < 10; frame++) {
            for (int colour = 0; colour < 3; colour++) {
                seen.add(x.light(frame, colour));
            }
            seen.add(x.edge(frame));
            seen.add(x.shotOf(frame));
        }
        for (int k = 0; k < 4; k++) {
            seen.add(x.splice(k));
            seen.add(x.soon(k - 1));
            seen.add(x.grade(0, 0, 0, k - 1));
            seen.add(x.frameTone(0, 1, 0, 2 * k));
        }
        seen.add(x.missing());
        seen.add(x.where(6, 1));
        seen.add(x.where(2, 20));
        seen.add(x.count(2));
        seen.add(x.count(4));
    }

    private static void lookAtTheRest(PrinterLights x, List<Integer> seen) {
        for (int what = 0; what <= 6; what++) {
            seen.add(x.count(what));
        }
        for (int what = 0; what <= 7; what++) {
            seen.add(x.bathTold(what / 4, what % 4));
            seen.add(x.plan(10 + what));
            seen.add(x.plan(20 + what));
        }
        for (int what = 0; what <= 3; what++) {
            seen.add(x.plan(what));
            seen.add(x.drift(what - 1));
        }
        seen.add(x.fault());
        seen.add(x.load());
        seen.add(x.noStrips());
        seen.add(x.clear());
        for (int k = 0; k < 9; k++) {
            seen.add(x.drop(0));
        }
    }

    /** What was told is seen by telling it anew. */
    private static void lookByTelling(PrinterLights x, List<Integer> seen) {
        for (int place = 0; place < 81; place++) {
            seen.add(x.table(place / 27, place / 9 % 3, place % 9, 0));
        }
        for (int cell = 0; cell < 48; cell++) {
            seen.add(x.shot(cell / 3, cell % 3, 0, 0));
            seen.add(x.shot(cell / 3, cell % 3, 1, 0));
        }
        for (int i = 0; i < 4; i++) {
            seen.add(x.bath(i / 2, i % 2, 1));
            seen.add(x.rule(i, 1));
            seen.add(x.lamp(i % 3, 0));
        }
        for (int reel = 0; reel < 8; reel++) {
            seen.add(x.lose(reel, true));
        }
        seen.add(x.mend());
    }

    private static void changesNothing(int state, String name, Call call) {
        for (int view = 0; view < VIEWS; view++) {
            PrinterLights x = make(state);
            call.on(x);
            boolean isSame = Arrays.equals(look(x, view), TWINS[state][view]);
            Check.due(name + ", does it change a thing (state " + state + ", view " + view + ")?", isSame ? 0 : 1, 0);
        }
    }

    private static void refused(int state, int due, String name, Call call) {
        Check.due(name + " (state " + state + ")", call.on(make(state)), due);
        changesNothing(state, name, call);
    }

    // ---- the calls

    private static void bad() {
        Doc.terms(7, "BAD: a number is none that is told, there is no such thing.");
        for (int state = EMPTY; state <= RICH; state++) {
            for (int[] far : new int[][] {{-1, 3}, {Integer.MIN_VALUE, Integer.MAX_VALUE}}) {
                for (int v : far) {
                    badColours(state, v);
                    badStocks(state, v);
                }
            }
            badBaths(state);
            badTones(state);
            badListsAndShots(state);
            badStrips(state);
            badReels(state);
            badOrders(state);
        }
    }

    private static void badColours(int state, int c) {
        String name = " of colour " + c;
        refused(state, BAD, "table" + name, x -> x.table(0, c, 0, 1));
        refused(state, BAD, "lamp" + name, x -> x.lamp(c, 1));
        refused(state, BAD_BELOW, "exposure" + name, x -> x.exposure(c, 1, 1, 1));
        refused(state, BAD, "tone" + name, x -> x.tone(0, c, 1, 1, 1, 1));
        refused(state, BAD, "light" + name, x -> x.light(0, c));
        refused(state, BAD_SHOT, "shot" + name, x -> x.shot(0, c, 0, 1));
        refused(state, BAD, "grade" + name, x -> x.grade(0, 0, c, 0));
        refused(state, BAD, "frameTone" + name, x -> x.frameTone(0, 0, c, 0));
        refused(state, BAD, "strip" + name, x -> x.strip(0, c, 0));
    }

    private static void badStocks(int state, int s) {
        String name = " of stock " + s;
        refused(state, BAD, "table" + name, x -> x.table(s, 0, 0, 1));
        refused(state, BAD, "tone" + name, x -> x.tone(s, 0, 1, 1, 1, 1));
        refused(state, BAD, "grade" + name, x -> x.grade(s, 0, 0, 0));
        refused(state, BAD, "frameTone" + name, x -> x.frameTone(s, 0, 0, 0));
    }

    private static void badBaths(int state) {
        for (int b : new int[] {Integer.MIN_VALUE, -1, 2, Integer.MAX_VALUE}) {
            String name = " of bath " + b;
            refused(state, BAD, "bath" + name, x -> x.bath(b, 0, 1));
            refused(state, BAD_BELOW, "bathTold" + name, x -> x.bathTold(b, 0));
            refused(state, BAD, "feet" + name, x -> x.feet(b, 100));
            refused(state, BAD_BELOW, "exposure" + name, x -> x.exposure(0, 1, 1, b));
            refused(state, BAD, "tone" + name, x -> x.tone(0, 0, 1, 1, b, 1));
            refused(state, BAD, "grade" + name, x -> x.grade(0, b, 0, 0));
            refused(state, BAD, "frameTone" + name, x -> x.frameTone(0, b, 0, 0));
            refused(state, BAD, "run" + name, x -> x.run(b));
        }
    }

    private static void badTones(int state) {
        for (int v : new int[] {-1, 9}) {
            refused(state, BAD, "table of k " + v, x -> x.table(0, 0, v, 250));
        }
        for (int v : new int[] {-1, 256}) {
            refused(state, BAD, "table by " + v, x -> x.table(0, 0, 8, v));
        }
        for (int v : new int[] {-1, 2}) {
            refused(state, BAD, "bath of what " + v, x -> x.bath(0, v, 7));
        }
        refused(state, BAD, "STRENGTH -1", x -> x.bath(0, 0, -1));
        refused(state, BAD, "STRENGTH 1001", x -> x.bath(0, 0, 1001));
        refused(state, BAD, "TIRE 0", x -> x.bath(0, 1, 0));
        refused(state, BAD, "TIRE 51", x -> x.bath(0, 1, 51));
        refused(state, BAD, "lamp -1", x -> x.lamp(0, -1));
        refused(state, BAD, "lamp 21", x -> x.lamp(0, 21));
        int[][] rules = {{0, 0}, {0, 49}, {1, -1}, {1, 61}, {2, -1}, {2, 4}, {3, 0}, {3, 21}, {-1, 3}, {4, 3}};
        for (int[] r : rules) {
            refused(state, BAD, "rule " + r[0] + " by " + r[1], x -> x.rule(r[0], r[1]));
        }
        refused(state, BAD_BELOW, "bathTold of what 4", x -> x.bathTold(0, 4));
        refused(state, BAD_BELOW, "bathTold of what -1", x -> x.bathTold(0, -1));
        refused(state, BAD, "feet 0", x -> x.feet(0, 0));
        refused(state, BAD, "feet 10001", x -> x.feet(0, 10001));
        for (int v : new int[] {0, 51}) {
            refused(state, BAD_BELOW, "exposure of points " + v, x -> x.exposure(0, v, 1, 1));
            refused(state, BAD, "tone of points " + v, x -> x.tone(0, 0, v, 1, 1, 1));
        }
        for (int v : new int[] {-1, 61}) {
            refused(state, BAD_BELOW, "exposure of density " + v, x -> x.exposure(0, 1, v, 1));
            refused(state, BAD, "tone of density " + v, x -> x.tone(0, 0, 1, v, 1, 1));
        }
        refused(state, BAD, "tone of generation 0", x -> x.tone(0, 0, 1, 1, 1, 0));
        refused(state, BAD, "tone of generation 6", x -> x.tone(0, 0, 1, 1, 1, 6));
    }

    private static void badListsAndShots(int state) {
        refused(state, BAD, "write 0", x -> x.write(0, 1));
        refused(state, BAD, "write 9", x -> x.write(9, 1));
        refused(state, BAD, "light of frame -1", x -> x.light(-1, 0));
        refused(state, BAD, "shotOf -1", x -> x.shotOf(-1));
        refused(state, BAD, "soon -2", x -> x.soon(-2));
        refused(state, BAD, "list -1", x -> x.list(-1));
        refused(state, BAD, "list 5", x -> x.list(5));
        int[][] shots = {{-1, 0, 1}, {16, 0, 1}, {0, -1, 1}, {0, 2, 1}, {0, 0, -1}, {0, 0, 61}, {0, 1, -2}, {0, 1, 256}};
        for (int[] s : shots) {
            refused(state, BAD_SHOT, "shot " + s[0] + " " + s[1] + " " + s[2], x -> x.shot(s[0], 0, s[1], s[2]));
        }
        refused(state, BAD, "grade of shot -2", x -> x.grade(0, 0, 0, -2));
        refused(state, BAD, "grade of shot 16", x -> x.grade(0, 0, 0, 16));
        refused(state, BAD, "frameTone of frame -1", x -> x.frameTone(0, 0, 0, -1));
    }

    private static void badStrips(int state) {
        int[][] strips = {{-1, 0}, {100, 0}, {0, -11}, {0, 11}, {0, 99}, {0, 101}};
        for (int[] s : strips) {
            refused(state, BAD, "strip " + s[0] + " " + s[1], x -> x.strip(s[0], 0, s[1]));
        }
        refused(state, BAD, "drift -2", x -> x.drift(-2));
    }

    private static void badReels(int state) {
        int[][] reels = {{-1, 0, 1}, {8, 0, 1}, {1, -1, 1}, {1, 100001, 1}, {1, 0, 0}, {1, 0, 2001}, {1, 100000, 2},
            {1, 98002, 2000}, {1, Integer.MAX_VALUE, 2000}};
        for (int[] r : reels) {
            refused(state, BAD, "reel " + r[0] + " " + r[1] + " " + r[2], x -> x.reel(r[0], r[1], r[2]));
        }
        for (int r : new int[] {-1, 8}) {
            refused(state, BAD, "lose " + r, x -> x.lose(r, true));
            refused(state, BAD, "find " + r, x -> x.lose(r, false));
            refused(state, BAD, "where of reel " + r, x -> x.where(r, 0));
        }
        int[][] froms = {{-1, 1, 0}, {16, 1, 0}, {0, -2, 0}, {0, 8, 0}, {0, 1, -1}, {0, 1, 100001}};
        for (int[] f : froms) {
            refused(state, BAD, "from " + f[0] + " " + f[1] + " " + f[2], x -> x.from(f[0], f[1], f[2]));
        }
        refused(state, BAD, "edge of frame -1", x -> x.edge(-1));
        refused(state, BAD, "where of edge -1", x -> x.where(1, -1));
        refused(state, BAD, "where of edge 100001", x -> x.where(1, 100001));
        refused(state, BAD, "splice -1", x -> x.splice(-1));
        refused(state, BAD, "splice 15", x -> x.splice(15));
    }

    private static void badOrders(int state) {
        int[][] orders = {{0, 0, 1, 0}, {41, 0, 1, 0}, {1, -1, 1, 0}, {1, 401, 1, 0}, {1, 0, 0, 0}, {1, 0, 21, 0},
            {1, 0, 1, -1}, {1, 0, 1, 6}};
        for (int[] o : orders) {
            refused(state, BAD, "order " + Arrays.toString(o), x -> x.order(o[0], o[1], o[2], o[3]));
        }
        for (int k : new int[] {-1, 8}) {
            refused(state, BAD, "drop " + k, x -> x.drop(k));
        }
        refused(EMPTY, BAD, "drop 0 of none", x -> x.drop(0));
        for (int what : new int[] {-1, 4, 9, 18, 19, 28}) {
            refused(state, BAD, "plan " + what, x -> x.plan(what));
        }
        refused(state, BAD, "count -1", x -> x.count(-1));
        refused(state, BAD, "count 7", x -> x.count(7));
    }

    private static void no() {
        Doc.terms(7, "NO: not as things stand.");
        for (int state = EMPTY; state <= RICH; state++) {
            refused(state, NO, "table, less than the one ahead", x -> x.table(0, 0, 2, 3));
            refused(state, NO, "table, more than the one behind", x -> x.table(0, 0, 2, 61));
            refused(state, NO, "load", x -> x.load());
            refused(state, NO, "light", x -> x.light(9, 0));
            refused(state, NO, "shotOf", x -> x.shotOf(9));
            refused(state, NO, "grade", x -> x.grade(0, 0, 0, 4));
            refused(state, NO, "frameTone", x -> x.frameTone(0, 0, 0, 9));
            refused(state, NO, "lose", x -> x.lose(7, true));
            refused(state, NO, "find", x -> x.lose(7, false));
            refused(state, NO, "from", x -> x.from(0, 7, 0));
            refused(state, NO, "edge", x -> x.edge(9));
            refused(state, NO, "splice", x -> x.splice(3));
            refused(state, NO, "run", x -> x.run(0));
        }
        refused(EMPTY, NO, "grade of no LIST", x -> x.grade(0, 0, 0, -1));
        refused(EMPTY, NO, "soon of no LIST", x -> x.soon(-1));
        refused(EMPTY, NO, "list of no LIST", x -> x.list(0));
        refused(EMPTY, NO, "missing of no LIST", x -> x.missing());
        refused(EMPTY, NO, "where of no LIST", x -> x.where(0, 0));
        refused(EMPTY, NO, "back of none", x -> x.back());
    }

    private static void full() {
        Doc.terms(7, "FULL.");
        refused(RICH, FULL, "write", x -> x.write(1, ';'));
        refused(RICH, FULL, "write", x -> x.write(8, -1));
        refused(RICH, FULL, "strip", x -> x.strip(0, 0, 5));
        refused(RICH, FULL, "strip, a GAP", x -> x.strip(0, 0, 100));
        refused(RICH, FULL, "order", x -> x.order(40, 0, 20, 0));
        refused(RICH, FULL, "keep", x -> x.keep());
    }

    private static void ofSeveralTheFirst() {
        Doc.terms(7, "Of several the first; nothing changes then.");
        // BAD and NO
        refused(EMPTY, BAD, "table by -1, less than the one ahead", x -> x.table(0, 0, 2, -1));
        refused(EMPTY, BAD, "table by 256, more than the one behind", x -> x.table(0, 0, 2, 256));
        refused(EMPTY, BAD, "light of colour 3, no LIST", x -> x.light(0, 3));
        refused(RICH, BAD, "light of colour 3, no such frame", x -> x.light(9, 3));
        refused(EMPTY, BAD, "shotOf -1, no LIST", x -> x.shotOf(-1));
        refused(EMPTY, BAD, "soon -2, no LIST", x -> x.soon(-2));
        refused(EMPTY, BAD, "list 5, no LIST", x -> x.list(5));
        refused(EMPTY, BAD, "grade of bath 2, no LIST", x -> x.grade(0, 2, 0, 0));
        refused(RICH, BAD, "grade of stock 3, no such SHOT", x -> x.grade(3, 0, 0, 4));
        refused(EMPTY, BAD, "frameTone of stock 3, no LIST", x -> x.frameTone(3, 0, 0, 0));
        refused(RICH, BAD, "frameTone of bath 2, no such frame", x -> x.frameTone(0, 2, 0, 9));
        refused(EMPTY, BAD, "lose 8, not told", x -> x.lose(8, true));
        refused(EMPTY, BAD, "from of shot 16, not told", x -> x.from(16, 7, 0));
        refused(RICH, BAD, "from of edge 100001, not told", x -> x.from(0, 7, 100001));
        refused(EMPTY, BAD, "edge -1, no LIST", x -> x.edge(-1));
        refused(EMPTY, BAD, "where of reel 8, no LIST", x -> x.where(8, 0));
        refused(EMPTY, BAD, "splice 15, no LIST", x -> x.splice(15));
        refused(EMPTY, BAD, "run of bath 2, no LIST", x -> x.run(2));
        refused(RICH, BAD, "run of bath 2, a splice is OPEN", x -> x.run(2));
        // BAD and FULL
        refused(RICH, BAD, "write 9, FULL", x -> x.write(9, 0));
        refused(RICH, BAD, "strip of hour 100, FULL", x -> x.strip(100, 0, 0));
        refused(RICH, BAD, "order of 41 hours, FULL", x -> x.order(41, 0, 1, 0));
        // two numbers that are BAD
        refused(RICH, BAD_SHOT, "shot 16 of colour 3", x -> x.shot(16, 3, 0, 1));
        refused(RICH, BAD_BELOW, "bathTold 2 of what 4", x -> x.bathTold(2, 4));
    }

    private static void askingChangesNothing() {
        Check.begin("Not promised, \"Nothing is promised beyond the answers and state changes described above\"");
        List<Named> asked = List.of(new Named("bathTold", x -> x.bathTold(0, 3)),
            new Named("exposure", x -> x.exposure(0, 9, 9, 0)), new Named("tone", x -> x.tone(0, 0, 9, 9, 0, 5)),
            new Named("fault", x -> x.fault()), new Named("light", x -> x.light(4, 1)),
            new Named("shotOf", x -> x.shotOf(4)), new Named("soon", x -> x.soon(0)), new Named("list", x -> x.list(3)),
            new Named("grade", x -> x.grade(0, 0, 0, 1)), new Named("grade, NONE", x -> x.grade(0, 0, 0, -1)),
            new Named("frameTone", x -> x.frameTone(0, 0, 0, 4)), new Named("drift", x -> x.drift(0)),
            new Named("edge", x -> x.edge(0)), new Named("missing", x -> x.missing()),
            new Named("where", x -> x.where(6, 1)), new Named("splice", x -> x.splice(0)),
            new Named("plan", x -> x.plan(0)), new Named("count", x -> x.count(6)));
        for (Named ask : asked) {
            changesNothing(EMPTY, ask.name(), ask.call());
            changesNothing(RICH, ask.name(), ask.call());
        }
    }

    /** A call that does change something is seen by one look at least; else looks would prove nothing. */
    private static void looksSeeChanges() {
        Check.begin("What the looks of this test see");
        List<Named> told = List.of(new Named("table", x -> x.table(2, 2, 8, 255)), new Named("bath", x -> x.bath(1, 0, 3)),
            new Named("tire", x -> x.bath(1, 1, 3)), new Named("lamp", x -> x.lamp(2, 1)),
            new Named("rule", x -> x.rule(0, 8)), new Named("feet", x -> x.feet(1, 1)), new Named("clear", x -> x.clear()),
            new Named("shot", x -> x.shot(15, 2, 0, 1)), new Named("aim", x -> x.shot(15, 0, 1, 1)),
            new Named("noStrips", x -> x.noStrips()), new Named("reel", x -> x.reel(7, 0, 1)),
            new Named("reel anew", x -> x.reel(3, 30, 1)), new Named("lose", x -> x.lose(2, true)),
            new Named("from", x -> x.from(3, 2, 1)), new Named("mend", x -> x.mend()), new Named("drop", x -> x.drop(7)),
            new Named("back", x -> x.back()));
        for (Named tell : told) {
            boolean isSeen = false;
            for (int view = 0; view < VIEWS; view++) {
                PrinterLights x = make(RICH);
                tell.call().on(x);
                isSeen |= !Arrays.equals(look(x, view), TWINS[RICH][view]);
            }
            Check.due(tell.name() + " is seen", isSeen ? 1 : 0, 1);
        }
    }
}
