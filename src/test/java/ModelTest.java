import java.util.ArrayDeque;
import java.util.Arrays;
import java.util.Deque;

/**
 * Promises 7, 13, 18 and 24 to 38 in any order: after each call the object is asked beside a slow model by the
 * document's words, in which feet go through one by one and what is KEPT is a whole copy.
 */
public final class ModelTest {
    private static final int NO = PrinterLights.NO, NONE = PrinterLights.NONE;
    private static final int RUNS = 600, CALLS = 40;

    private static long seed = 912;

    /** What KEPT are copies of. */
    private static final class Scene {
        int[][] shots = new int[0][];
        int[] hold = new int[15];
        int[] density = new int[48];
        int[] aim = new int[48];
        int[][] from = new int[16][];
        int[][] reels = new int[8][];
        boolean[] lost = new boolean[8];

        Scene() {
            Arrays.fill(density, 30);
            Arrays.fill(aim, -1);
        }

        Scene copy() {
            Scene c = new Scene();
            c.shots = shots.clone();
            c.hold = hold.clone();
            c.density = density.clone();
            c.aim = aim.clone();
            c.from = from.clone();
            c.reels = reels.clone();
            c.lost = lost.clone();
            return c;
        }

        boolean isSplice(int k) {
            if (from[k] == null || from[k + 1] == null || from[k][0] != from[k + 1][0]) {
                return true;
            }
            return from[k][1] + shots[k][0] != from[k + 1][1];
        }

        int open() {
            int n = 0;
            for (int k = 0; k < shots.length - 1; k++) {
                n += isSplice(k) && hold[k] == 0 ? 1 : 0;
            }
            return n;
        }

        boolean isMissing(int shot) {
            if (from[shot] == null || lost[from[shot][0]]) {
                return true;
            }
            int[] reel = reels[from[shot][0]];
            for (int i = 0; i < shots[shot][0]; i++) {
                int edge = from[shot][1] + i;
                if (edge < reel[0] || edge >= reel[0] + reel[1]) {
                    return true;
                }
            }
            return false;
        }
    }

    private Scene scene = new Scene();
    private final Deque<Scene> kept = new ArrayDeque<>();
    private final int[] strength = {800, 800};
    private final int[] tire = {5, 5};
    private final int[] feet = {0, 0};
    private int wear = 4;
    private int runs;
    private final PrinterLights x = new PrinterLights();

    public static void main(String[] args) {
        for (int run = 0; run < RUNS; run++) {
            ModelTest model = new ModelTest();
            for (int call = 0; call < CALLS; call++) {
                model.anyCall();
            }
            model.askAll();
        }
        Check.end();
    }

    private static int any(int low, int high) {
        seed = seed * 6364136223846793005L + 1442695040888963407L;
        return low + (int) ((seed >>> 33) % (high - low + 1));
    }

    private void anyCall() {
        switch (any(0, 13)) {
            case 0 -> load();
            case 1, 2, 3 -> run(any(0, 1));
            case 4 -> Check.due("mend", x.mend(), mend());
            case 5 -> reel(any(0, 2));
            case 6 -> lose(any(0, 3), any(0, 1) == 0);
            case 7, 8 -> from(any(0, 4), any(-1, 3));
            case 9 -> shot(any(0, 15), any(0, 2));
            case 10 -> keep();
            case 11 -> back();
            case 12 -> {
                wear = any(0, 1) == 0 ? 20 : any(1, 20);
                x.rule(3, wear);
            }
            default -> tell(any(0, 1));
        }
        Check.due("OPEN", x.count(4), scene.open());
        Check.due("KEPT", x.count(5), kept.size());
        Check.due("RUNS", x.count(6), runs);
    }

    private void load() {
        int n = any(1, 5);
        int[][] shots = new int[n][];
        StringBuilder text = new StringBuilder();
        int frames = 0;
        for (int shot = 0; shot < n; shot++) {
            shots[shot] = new int[] {any(1, 40), any(1, 20), any(1, 20), 7};
            int[] s = shots[shot];
            text.append(String.format("s%d,%d,%d,%d,%d;", shot, s[0], s[1], s[2], s[3]));
            frames += s[0];
        }
        Check.due("load", Check.load(x, text.toString()), frames);
        scene.shots = shots;
        Arrays.fill(scene.hold, 100);
    }

    private void run(int bath) {
        int n = scene.shots.length;
        if (n == 0 || scene.open() > 0) {
            Check.due("run", x.run(bath), NO);
            return;
        }
        int through = n;
        for (int k = 0; k < n - 1 && through == n; k++) {
            if (scene.isSplice(k)) {
                int jump = 0;
                for (int c = 1; c <= 3; c++) {
                    jump = Math.max(jump, Math.abs(scene.shots[k][c] - scene.shots[k + 1][c]));
                }
                scene.hold[k] = Math.max(0, scene.hold[k] - wear - (jump >= 10 ? 2 : 0));
                through = scene.hold[k] == 0 ? k + 1 : n;
            }
        }
        int frames = 0;
        for (int shot = 0; shot < through; shot++) {
            frames += scene.shots[shot][0];
        }
        runs++;
        Check.due("run", x.run(bath), through);
        pass(bath, (int) Math.ceil(frames / 16.0));
    }

    private void pass(int bath, int n) {
        for (int foot = 0; foot < n; foot++) {
            feet[bath]++;
            if (feet[bath] % 100 == 0) {
                strength[bath] = Math.max(0, strength[bath] - tire[bath]);
            }
        }
        Check.due("FEET", x.bathTold(bath, 2), feet[bath]);
        Check.due("STRENGTH", x.bathTold(bath, 0), strength[bath]);
        Check.due("ACTIVITY", x.bathTold(bath, 3), (int) Math.floor((strength[bath] - 800) / 40.0));
    }

    private int mend() {
        int open = scene.open();
        for (int k = 0; k < scene.shots.length - 1; k++) {
            if (scene.isSplice(k) && scene.hold[k] == 0) {
                scene.hold[k] = 80;
            }
        }
        return open;
    }

    private void reel(int reel) {
        scene.reels[reel] = new int[] {any(0, 20), any(1, 150)};
        scene.lost[reel] = false;
        Check.due("reel", x.reel(reel, scene.reels[reel][0], scene.reels[reel][1]), 0);
    }

    private void lose(int reel, boolean lost) {
        boolean isTold = scene.reels[reel] != null;
        Check.due("lose", x.lose(reel, lost), isTold ? (scene.lost[reel] ? 1 : 0) : NO);
        scene.lost[reel] = isTold && lost;
    }

    /** Often just behind the SHOT ahead, so that splices come and go. */
    private void from(int shot, int reel) {
        int edge = any(0, 60);
        int r = reel;
        if (shot > 0 && shot < scene.shots.length && scene.from[shot - 1] != null && any(0, 1) == 0) {
            r = scene.from[shot - 1][0];
            edge = scene.from[shot - 1][1] + scene.shots[shot - 1][0];
        }
        boolean isNo = r >= 0 && scene.reels[r] == null;
        Check.due("from", x.from(shot, r, edge), isNo ? NO : 0);
        if (!isNo) {
            scene.from[shot] = r < 0 ? null : new int[] {r, edge};
        }
    }

    private void shot(int shot, int colour) {
        int cell = shot * 3 + colour;
        int density = any(0, 60);
        int aim = any(-1, 255);
        Check.due("density", x.shot(shot, colour, 0, density), scene.density[cell]);
        Check.due("AIM", x.shot(shot, colour, 1, aim), scene.aim[cell]);
        scene.density[cell] = density;
        scene.aim[cell] = aim;
    }

    private void keep() {
        if (kept.size() < 2) {
            kept.push(scene.copy());
            Check.due("keep", x.keep(), kept.size());
        } else {
            Check.due("keep", x.keep(), PrinterLights.FULL);
        }
    }

    private void back() {
        if (kept.isEmpty()) {
            Check.due("back", x.back(), NO);
        } else {
            scene = kept.pop();
            Check.due("back", x.back(), kept.size());
            askSplicesAndReels();
        }
    }

    private void tell(int bath) {
        if (any(0, 3) == 0) {
            Check.due("TIRE", x.bath(bath, 1, 1 + tire[bath] % 50), tire[bath]);
            tire[bath] = 1 + tire[bath] % 50;
        }
        int n = any(1, 250);
        x.feet(bath, n);
        pass(bath, n);
    }

    private void askAll() {
        askSplicesAndReels();
        for (int cell = 0; cell < 48; cell++) {
            Check.due("density", x.shot(cell / 3, cell % 3, 0, 0), scene.density[cell]);
            Check.due("AIM", x.shot(cell / 3, cell % 3, 1, 0), scene.aim[cell]);
        }
    }

    private void askSplicesAndReels() {
        int n = scene.shots.length;
        for (int k = 0; k < 5; k++) {
            int due = k >= n - 1 ? NO : scene.isSplice(k) ? scene.hold[k] : NONE;
            Check.due("splice " + k, x.splice(k), due);
        }
        int bits = 0;
        int start = 0;
        for (int shot = 0; shot < n; shot++) {
            bits |= scene.isMissing(shot) ? 1 << shot : 0;
            Check.due("LIGHT", x.light(start, 0), scene.shots[shot][1]);
            Check.due("the first EDGE", x.edge(start), scene.from[shot] == null ? NONE : scene.from[shot][1]);
            start += scene.shots[shot][0];
        }
        Check.due("missing", x.missing(), n == 0 ? NO : bits);
        Check.due("frames", x.list(1), n == 0 ? NO : start);
        int told = 0;
        for (int[] reel : scene.reels) {
            told += reel == null ? 0 : 1;
        }
        Check.due("REELS told", x.count(2), told);
        int reel = any(0, 3);
        int edge = any(0, 60);
        Check.due("where", x.where(reel, edge), n == 0 ? NO : where(reel, edge));
    }

    private int where(int reel, int edge) {
        int frame = 0;
        for (int shot = 0; shot < scene.shots.length; shot++) {
            for (int i = 0; i < scene.shots[shot][0]; i++) {
                int[] from = scene.from[shot];
                if (from != null && from[0] == reel && from[1] + i == edge) {
                    return frame;
                }
                frame++;
            }
        }
        return NONE;
    }
}
