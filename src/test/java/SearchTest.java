/** The promises that seek a best or a first one, 16, 17, 19, 23 and 35, against slow searches by the document's words. */
public final class SearchTest {
    private static long seed = 20261118;

    public static void main(String[] args) {
        for (int i = 0; i < 300; i++) {
            clock();
            drift();
        }
        for (int i = 0; i < 60; i++) {
            grade();
            plan();
        }
        Check.end();
    }

    private static int any(int low, int high) {
        seed = seed * 6364136223846793005L + 1442695040888963407L;
        return low + (int) ((seed >>> 33) % (high - low + 1));
    }

    // ---- 14, 16, 17: every frame's LIGHT and whether any change is let there, frame by frame

    private static void clock() {
        StringBuilder text = new StringBuilder();
        int[][] lights = new int[200][3];
        boolean[] isFree = new boolean[201];
        int frames = 0;
        int shots = any(1, 6);
        for (int shot = 0; shot < shots; shot++) {
            int long1 = any(1, 9);
            text.append('s').append(shot).append(',').append(long1);
            int[] own = {any(1, 3), any(1, 3), any(1, 12)};
            appendLights(text, own);
            for (int i = 0; i < long1; i++) {
                lights[frames + i] = own.clone();
            }
            if (any(0, 2) == 0) {
                int over = any(1, long1);
                int[] to = {any(1, 9), any(1, 3), any(1, 3)};
                text.append('f').append(over);
                appendLights(text, to);
                for (int j = 1; j <= over; j++) {
                    int frame = frames + long1 - over + j - 1;
                    isFree[frame] = true;
                    for (int c = 0; c < 3; c++) {
                        lights[frame][c] = own[c] + (to[c] - own[c]) * j / over;
                    }
                }
            }
            int effects = any(0, 2);
            for (int e = 0; e < effects; e++) {
                int from = any(0, long1 - 1);
                int n = any(1, long1 - from);
                int less = any(1, 4);
                text.append('e').append(from).append(',').append(n).append(',').append(less).append(';');
                isFree[frames + from] = true;
                isFree[frames + from + n] = true;
                for (int i = from; i < from + n; i++) {
                    for (int c = 0; c < 3; c++) {
                        lights[frames + i][c] = Math.max(1, lights[frames + i][c] - less);
                    }
                }
            }
            frames += long1;
        }
        PrinterLights x = new PrinterLights();
        int wait = any(1, 9);
        x.rule(0, wait);
        Check.due("load " + text, Check.load(x, text.toString()), frames);
        compareClock(x, text.toString(), lights, isFree, frames, wait);
    }

    private static void appendLights(StringBuilder text, int[] lights) {
        for (int light : lights) {
            text.append(',').append(light);
        }
        text.append(';');
    }

    private static void compareClock(PrinterLights x, String text, int[][] lights, boolean[] isFree, int frames, int wait) {
        int changes = 0;
        int soon = 0;
        int latest = -1;
        for (int frame = 0; frame < frames; frame++) {
            for (int c = 0; c < 3; c++) {
                Check.due("light " + frame + " " + c + " of " + text, x.light(frame, c), lights[frame][c]);
            }
            if (frame > 0 && !java.util.Arrays.equals(lights[frame], lights[frame - 1])) {
                changes++;
                if (latest >= 0 && frame - latest < wait && !isFree[frame]) {
                    Check.due("soon " + soon + " of " + text, x.soon(soon), frame);
                    soon++;
                }
                latest = frame;
            }
        }
        Check.due("changes of " + text, x.list(3), changes);
        Check.due("soon of " + text, x.soon(-1), soon);
        Check.due("no more of " + text, x.soon(soon), PrinterLights.NONE);
    }

    // ---- 19: all POINTS of three SHOTS

    private static void grade() {
        PrinterLights x = new PrinterLights();
        Check.load(x, "s0,1,1,1,1;s1,1,1,1,1;s2,1,1,1,1;");
        x.rule(1, any(0, 3) == 0 ? any(0, 60) : any(0, 3));
        int near = x.rule(1, 0);
        x.rule(1, near);
        x.lamp(1, any(0, 4));
        x.bath(1, 0, any(600, 1000));
        int[] density = new int[3];
        int[] aim = new int[3];
        for (int shot = 0; shot < 3; shot++) {
            density[shot] = any(0, 40);
            int points = any(0, 2) == 0 ? any(1, 3) : any(0, 2) == 0 ? any(48, 50) : any(1, 50);
            aim[shot] = any(0, 4) == 0 ? -1 : x.tone(2, 1, points, density[shot], 1, 1) + any(0, 2);
            x.shot(shot, 1, 0, density[shot]);
            x.shot(shot, 1, 1, aim[shot]);
        }
        boolean[][] may = new boolean[3][51];
        for (int shot = 0; shot < 3; shot++) {
            for (int p = 1; p <= 50; p++) {
                int tone = x.tone(2, 1, p, density[shot], 1, 1);
                may[shot][p] = aim[shot] == -1 || Math.abs(tone - aim[shot]) <= near;
            }
        }
        int[] best = {PrinterLights.NONE, PrinterLights.NONE, PrinterLights.NONE};
        int least = Integer.MAX_VALUE;
        for (int a = 1; a <= 50; a++) {
            for (int b = 1; b <= 50; b++) {
                for (int c = 1; c <= 50; c++) {
                    int sum = Math.abs(a - b) + Math.abs(b - c);
                    if (may[0][a] && may[1][b] && may[2][c] && sum < least) {
                        least = sum;
                        best = new int[] {a, b, c};
                    }
                }
            }
        }
        Check.due("grade steps", x.grade(2, 1, 1, -1), least == Integer.MAX_VALUE ? PrinterLights.NONE : least);
        for (int shot = 0; shot < 3; shot++) {
            Check.due("grade " + shot, x.grade(2, 1, 1, shot), best[shot]);
        }
    }

    // ---- 23: every DRIFT against every STRIP

    private static void drift() {
        PrinterLights x = new PrinterLights();
        int doubt = any(0, 3);
        x.rule(2, doubt);
        int n = any(0, 6);
        int sunkFrom = any(0, 99);
        int sunk = any(0, 5);
        int colourSunk = any(0, 3);
        int[][] strips = new int[n][];
        for (int i = 0; i < n; i++) {
            int hour = any(0, 99);
            int colour = any(0, 2);
            boolean isSo = hour >= sunkFrom && (colourSunk == 3 || colourSunk == colour);
            int off = (isSo ? -sunk : 0) + any(-doubt, doubt);
            strips[i] = new int[] {hour, colour, any(0, 5) == 0 ? 100 : any(0, 9) == 0 ? any(-10, 10) : off};
            x.strip(strips[i][0], strips[i][1], strips[i][2]);
        }
        int seen = 0;
        for (int h = 0; h < 100; h++) {
            if (h == 0 && explains(strips, -1, 0, 0, doubt)) {
                Check.due("drift none", x.drift(seen++), 0);
            }
            for (int c = 0; c < 3; c++) {
                for (int d = 1; d <= 5; d++) {
                    if (explains(strips, c, h, d, doubt)) {
                        Check.due("drift of a LAMP", x.drift(seen++), 1 + 5 * (3 * h + c) + d - 1);
                    }
                }
            }
        }
        for (int h = 0; h < 100; h++) {
            for (int d = 1; d <= 5; d++) {
                if (explains(strips, 3, h, d, doubt)) {
                    Check.due("drift of THE BATH", x.drift(seen++), 1501 + 5 * h + d - 1);
                }
            }
        }
        Check.due("drifts", x.drift(-1), seen);
        Check.due("no more", x.drift(seen), PrinterLights.NONE);
    }

    private static boolean explains(int[][] strips, int what, int h, int d, int doubt) {
        for (int[] strip : strips) {
            boolean isSo = strip[0] >= h && (what == 3 || what == strip[1]);
            if (strip[2] != 100 && Math.abs(strip[2] - (isSo ? -d : 0)) > doubt) {
                return false;
            }
        }
        return true;
    }

    // ---- 35: all bits and all ways through the orders, in the order in which ties go

    private static int[][] orders;
    private static int bestLate;
    private static int[] bestWay;

    private static void plan() {
        PrinterLights x = new PrinterLights();
        int n = any(0, 6);
        int negatives = any(1, 6);
        int most = any(1, 3) * 3;
        orders = new int[n][];
        for (int k = 0; k < n; k++) {
            orders[k] = new int[] {any(1, most), any(0, 2 * most), any(1, 3), any(6 - negatives, 5)};
            x.order(orders[k][0], orders[k][1], orders[k][2], orders[k][3]);
        }
        int late = Integer.MAX_VALUE;
        int bits = -1;
        int[][] ways = new int[2][];
        for (int tried = 0; tried < 64; tried++) {
            int[] zero = bestOn(tried, 0);
            int lateOnZero = bestLate;
            int[] one = bestOn(tried, 1);
            if (lateOnZero + bestLate < late) {
                late = lateOnZero + bestLate;
                bits = tried;
                ways[0] = zero;
                ways[1] = one;
            }
        }
        Check.due("plan late", x.plan(0), late);
        Check.due("plan bits", x.plan(1), bits);
        for (int m = 0; m < 2; m++) {
            Check.due("plan how many", x.plan(2 + m), ways[m].length);
            for (int i = 0; i < 8; i++) {
                int due = i < ways[m].length ? ways[m][i] : PrinterLights.NONE;
                Check.due("plan " + m + " " + i, x.plan(10 * (m + 1) + i), due);
            }
        }
    }

    private static int[] bestOn(int bits, int machine) {
        int count = 0;
        boolean[] left = new boolean[orders.length];
        for (int k = 0; k < orders.length; k++) {
            left[k] = (bits >> orders[k][3] & 1) == machine;
            count += left[k] ? 1 : 0;
        }
        bestLate = Integer.MAX_VALUE;
        goThrough(left, new int[count], 0, 0, 0);
        return bestWay;
    }

    private static void goThrough(boolean[] left, int[] way, int at, int hour, int late) {
        if (at == way.length) {
            if (late < bestLate) {
                bestLate = late;
                bestWay = way.clone();
            }
            return;
        }
        for (int k = 0; k < left.length; k++) {
            if (left[k]) {
                left[k] = false;
                way[at] = k;
                int end = hour + orders[k][0];
                goThrough(left, way, at + 1, end, late + orders[k][2] * Math.max(0, end - orders[k][1]));
                left[k] = true;
            }
        }
    }
}
