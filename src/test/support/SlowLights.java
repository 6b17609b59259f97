import java.nio.charset.StandardCharsets;
import java.util.ArrayList;
import java.util.Arrays;
import java.util.List;
import java.util.regex.Matcher;
import java.util.regex.Pattern;

/**
 * The whole of DOC.md as a slow program that goes other ways than the class: each frame has its own lights, each foot
 * goes through by itself, each drift is held against each strip, what is KEPT is a copy. It was written by one who had
 * read the class, and takes the readings of NOTES.md: it shows slips of the class, not that such a reading is right.
 */
final class SlowLights {
    private static final int BAD = -1, NO = -2, FULL = -3, NONE = -4;
    private static final Pattern SHOT = item("s", 5), FADE = item("f", 4), EFFECT = item("e", 3), COPIES = item("c", 1);

    private static final class Shot {
        final int[] told;
        int[] fade;
        final List<int[]> effects = new ArrayList<>();
        int first;

        Shot(int[] told) {
            this.told = told;
        }

        int frames() {
            return told[1];
        }
    }

    private static final class Film {
        final List<Shot> shots = new ArrayList<>();
        int copies;
        /** Of each frame: its SHOT, its LIGHTS. */
        final List<Integer> shotOf = new ArrayList<>();
        final List<int[]> lights = new ArrayList<>();
        final List<Integer> changes = new ArrayList<>();

        boolean hasFrame(int frame) {
            return frame < lights.size();
        }

        Shot latest() {
            return shots.get(shots.size() - 1);
        }
    }

    /** What is KEPT. A REEL is first EDGE, frames, LOST; where a SHOT comes from is REEL, EDGE. */
    private static final class Desk {
        Film film = new Film();
        int[] hold = new int[15];
        int[][] density = new int[16][3];
        int[][] aim = new int[16][3];
        int[][] from = new int[16][];
        int[][] reels = new int[8][];
    }

    private final int[][][] tables = new int[3][3][];
    private final int[][] baths = {{800, 5, 0}, {800, 5, 0}};
    private final int[] sunk = new int[3];
    private final int[] rules = {6, 6, 0, 4};
    private String text = "";
    private Desk desk = new Desk();
    private final List<Desk> kept = new ArrayList<>();
    private final List<int[]> strips = new ArrayList<>();
    private final List<int[]> orders = new ArrayList<>();
    private int runs;

    SlowLights() {
        for (int[][] stock : tables) {
            for (int colour = 0; colour < 3; colour++) {
                stock[colour] = new int[] {0, 4, 20, 60, 110, 160, 205, 235, 250};
            }
        }
        for (int shot = 0; shot < 16; shot++) {
            Arrays.fill(desk.density[shot], 30);
            Arrays.fill(desk.aim[shot], -1);
        }
    }

    private static Pattern item(String sign, int numbers) {
        return Pattern.compile(sign + "([0-9]{1,4})" + ",([0-9]{1,4})".repeat(numbers - 1));
    }

    private static boolean in(int v, int low, int high) {
        return low <= v && v <= high;
    }

    private boolean hasList() {
        return !desk.film.shots.isEmpty();
    }

    // ---- tones

    int table(int stock, int colour, int k, int v) {
        if (!in(stock, 0, 2) || !in(colour, 0, 2) || !in(k, 0, 8) || !in(v, 0, 255)) {
            return BAD;
        }
        int[] changed = tables[stock][colour].clone();
        changed[k] = v;
        for (int i = 1; i <= 8; i++) {
            if (changed[i] < changed[i - 1]) {
                return NO;
            }
        }
        int was = tables[stock][colour][k];
        tables[stock][colour] = changed;
        return was;
    }

    int bath(int bath, int what, int v) {
        if (!in(bath, 0, 1) || !in(what, 0, 1) || !in(v, what == 0 ? 0 : 1, what == 0 ? 1000 : 50)) {
            return BAD;
        }
        int was = baths[bath][what];
        baths[bath][what] = v;
        return was;
    }

    int lamp(int colour, int v) {
        if (!in(colour, 0, 2) || !in(v, 0, 20)) {
            return BAD;
        }
        int was = sunk[colour];
        sunk[colour] = v;
        return was;
    }

    int rule(int what, int v) {
        int[][] told = {{1, 48}, {0, 60}, {0, 3}, {1, 20}};
        if (!in(what, 0, 3) || !in(v, told[what][0], told[what][1])) {
            return BAD;
        }
        int was = rules[what];
        rules[what] = v;
        return was;
    }

    int bathTold(int bath, int what) {
        if (!in(bath, 0, 1) || !in(what, 0, 3)) {
            return -1000;
        }
        return what == 3 ? (int) Math.floor((baths[bath][0] - 800) / 40.0) : baths[bath][what];
    }

    int feet(int bath, int n) {
        if (!in(bath, 0, 1) || !in(n, 1, 10000)) {
            return BAD;
        }
        for (int foot = 0; foot < n; foot++) {
            baths[bath][2]++;
            if (baths[bath][2] % 100 == 0) {
                baths[bath][0] = Math.max(0, baths[bath][0] - baths[bath][1]);
            }
        }
        return baths[bath][0];
    }

    int exposure(int colour, int points, int density, int bath) {
        if (!in(colour, 0, 2) || !in(points, 1, 50) || !in(density, 0, 60) || !in(bath, 0, 1)) {
            return -1000;
        }
        return points + 20 - density - sunk[colour] + bathTold(bath, 3);
    }

    int tone(int stock, int colour, int points, int density, int bath, int g) {
        if (!in(stock, 0, 2) || !in(g, 1, 5) || exposure(colour, points, density, bath) == -1000) {
            return BAD;
        }
        int d = g == 1 ? density : 60 - Math.min(60, tone(stock, colour, points, density, bath, g - 1) / 5);
        int e = Math.min(64, Math.max(0, exposure(colour, points, d, bath)));
        int[] row = tables[stock][colour];
        int below = row[e / 8];
        int above = row[Math.min(8, e / 8 + 1)];
        return (int) Math.floor(below + (above - below) * (e % 8) / 8.0);
    }

    // ---- lists

    int write(int n, long v) {
        if (!in(n, 1, 8)) {
            return BAD;
        }
        if (text.length() + n > 400) {
            return FULL;
        }
        byte[] eight = java.nio.ByteBuffer.allocate(8).putLong(v).array();
        text += new String(eight, 8 - n, n, StandardCharsets.ISO_8859_1);
        return text.length();
    }

    int clear() {
        int was = text.length();
        text = "";
        return was;
    }

    int fault() {
        return read(new Film());
    }

    int load() {
        Film film = new Film();
        if (read(film) != NONE || film.shots.isEmpty()) {
            return NO;
        }
        paint(film);
        desk.film = film;
        Arrays.fill(desk.hold, 100);
        return film.lights.size();
    }

    private int read(Film film) {
        int at = 0;
        while (at < text.length()) {
            int end = text.indexOf(';', at);
            if (end < 0 || !isSo(film, text.substring(at, end))) {
                return at;
            }
            at = end + 1;
        }
        return NONE;
    }

    private static int[] numbers(Pattern item, String words) {
        Matcher m = item.matcher(words);
        if (!m.matches()) {
            return null;
        }
        int[] found = new int[m.groupCount()];
        for (int i = 0; i < found.length; i++) {
            found[i] = Integer.parseInt(m.group(i + 1));
        }
        return found;
    }

    private static boolean areLights(int[] numbers, int at) {
        return in(numbers[at], 1, 50) && in(numbers[at + 1], 1, 50) && in(numbers[at + 2], 1, 50);
    }

    private static boolean isSo(Film film, String words) {
        int[] s = numbers(SHOT, words);
        int[] c = numbers(COPIES, words);
        if (s != null) {
            boolean isSo = in(s[0], 0, 15) && s[0] == film.shots.size() && in(s[1], 1, 400) && areLights(s, 2);
            return isSo && film.shots.add(new Shot(s));
        }
        if (c != null) {
            boolean isSo = film.copies == 0 && in(c[0], 1, 999);
            film.copies = isSo ? c[0] : film.copies;
            return isSo;
        }
        return !film.shots.isEmpty() && isPartSo(film.latest(), numbers(FADE, words), numbers(EFFECT, words));
    }

    private static boolean isPartSo(Shot shot, int[] f, int[] e) {
        if (f != null) {
            boolean isSo = shot.fade == null && in(f[0], 1, shot.frames()) && areLights(f, 1);
            shot.fade = isSo ? f : shot.fade;
            return isSo;
        }
        boolean isSo = e != null && e[1] >= 1 && e[0] + e[1] - 1 < shot.frames() && in(e[2], 1, 40) && shot.effects.size() < 4;
        return isSo && shot.effects.add(e);
    }

    private static void paint(Film film) {
        for (Shot shot : film.shots) {
            shot.first = film.lights.size();
            for (int i = 0; i < shot.frames(); i++) {
                film.shotOf.add(shot.told[0]);
                film.lights.add(new int[] {lightOf(shot, i, 0), lightOf(shot, i, 1), lightOf(shot, i, 2)});
            }
        }
        for (int frame = 1; frame < film.lights.size(); frame++) {
            if (!Arrays.equals(film.lights.get(frame), film.lights.get(frame - 1))) {
                film.changes.add(frame);
            }
        }
    }

    private static int lightOf(Shot shot, int i, int colour) {
        int own = shot.told[2 + colour];
        int light = own;
        for (int j = 1; shot.fade != null && j <= shot.fade[0]; j++) {
            if (i == shot.frames() - shot.fade[0] + j - 1) {
                light = own + (shot.fade[1 + colour] - own) * j / shot.fade[0];
            }
        }
        for (int[] e : shot.effects) {
            light = in(i, e[0], e[0] + e[1] - 1) ? Math.max(1, light - e[2]) : light;
        }
        return light;
    }

    int light(int frame, int colour) {
        if (frame < 0 || !in(colour, 0, 2)) {
            return BAD;
        }
        return desk.film.hasFrame(frame) ? desk.film.lights.get(frame)[colour] : NO;
    }

    int shotOf(int frame) {
        if (frame < 0) {
            return BAD;
        }
        return desk.film.hasFrame(frame) ? desk.film.shotOf.get(frame) : NO;
    }

    int soon(int i) {
        if (i < -1) {
            return BAD;
        }
        if (!hasList()) {
            return NO;
        }
        List<Integer> soon = new ArrayList<>();
        List<Integer> changes = desk.film.changes;
        for (int n = 1; n < changes.size(); n++) {
            if (changes.get(n) - changes.get(n - 1) < rules[0] && !isLetAnyhow(changes.get(n))) {
                soon.add(changes.get(n));
            }
        }
        if (i == -1) {
            return soon.size();
        }
        return i < soon.size() ? soon.get(i) : NONE;
    }

    private boolean isLetAnyhow(int frame) {
        for (Shot shot : desk.film.shots) {
            int end = shot.first + shot.frames();
            if (shot.fade != null && in(frame, end - shot.fade[0], end - 1)) {
                return true;
            }
            for (int[] e : shot.effects) {
                if (frame == shot.first + e[0] || frame == shot.first + e[0] + e[1]) {
                    return true;
                }
            }
        }
        return false;
    }

    int list(int what) {
        if (!in(what, 0, 4)) {
            return BAD;
        }
        if (!hasList()) {
            return NO;
        }
        Film film = desk.film;
        int copies = film.copies == 0 ? 1 : film.copies;
        int feet = (int) Math.ceil(film.lights.size() / 16.0);
        return new int[] {film.shots.size(), film.lights.size(), copies, film.changes.size(), copies * feet}[what];
    }

    // ---- grading

    int shot(int shot, int colour, int what, int v) {
        if (!in(shot, 0, 15) || !in(colour, 0, 2) || !in(what, 0, 1) || !in(v, -what, what == 0 ? 60 : 255)) {
            return -100;
        }
        int[] row = (what == 0 ? desk.density : desk.aim)[shot];
        int was = row[colour];
        row[colour] = v;
        return was;
    }

    int grade(int stock, int bath, int colour, int shot) {
        if (!in(stock, 0, 2) || !in(bath, 0, 1) || !in(colour, 0, 2) || !in(shot, -1, 15)) {
            return BAD;
        }
        int shots = desk.film.shots.size();
        if (shots == 0 || shot >= shots) {
            return NO;
        }
        int[] best = null;
        int[][] ways = new int[51][];
        for (int s = shots - 1; s >= 0; s--) {
            int[][] behind = ways;
            ways = new int[51][];
            for (int p = 1; p <= 50; p++) {
                int off = tone(stock, colour, p, desk.density[s][colour], bath, 1) - desk.aim[s][colour];
                if (desk.aim[s][colour] == -1 || in(off, -rules[1], rules[1])) {
                    ways[p] = s == shots - 1 ? new int[] {p} : bestWith(p, behind);
                }
            }
        }
        for (int[] way : ways) {
            best = better(best, way);
        }
        if (best == null) {
            return NONE;
        }
        return shot == -1 ? steps(best) : best[shot];
    }

    private static int[] bestWith(int p, int[][] behind) {
        int[] best = null;
        for (int[] way : behind) {
            if (way != null) {
                int[] longer = new int[way.length + 1];
                longer[0] = p;
                System.arraycopy(way, 0, longer, 1, way.length);
                best = better(best, longer);
            }
        }
        return best;
    }

    private static int[] better(int[] a, int[] b) {
        if (a == null || b == null) {
            return a == null ? b : a;
        }
        int less = steps(a) - steps(b);
        return less < 0 || less == 0 && Arrays.compare(a, b) <= 0 ? a : b;
    }

    private static int steps(int[] way) {
        int sum = 0;
        for (int i = 1; i < way.length; i++) {
            sum += Math.abs(way[i] - way[i - 1]);
        }
        return sum;
    }

    int frameTone(int stock, int bath, int colour, int frame) {
        if (!in(stock, 0, 2) || !in(bath, 0, 1) || !in(colour, 0, 2) || frame < 0) {
            return BAD;
        }
        if (!desk.film.hasFrame(frame)) {
            return NO;
        }
        int density = desk.density[desk.film.shotOf.get(frame)][colour];
        return tone(stock, colour, desk.film.lights.get(frame)[colour], density, bath, 1);
    }

    // ---- strips

    int strip(int hour, int colour, int off) {
        if (!in(hour, 0, 99) || !in(colour, 0, 2) || !in(off, -10, 10) && off != 100) {
            return BAD;
        }
        if (strips.size() == 20) {
            return FULL;
        }
        strips.add(new int[] {hour, colour, off});
        return strips.size();
    }

    int noStrips() {
        int was = strips.size();
        strips.clear();
        return was;
    }

    int drift(int i) {
        if (i < -1) {
            return BAD;
        }
        boolean[] explain = new boolean[2001];
        explain[0] = explains(0, 0, 0);
        for (int h = 0; h <= 99; h++) {
            for (int d = 1; d <= 5; d++) {
                for (int c = 0; c <= 2; c++) {
                    explain[1 + 5 * (3 * h + c) + d - 1] = explains(c, h, d);
                }
                explain[1501 + 5 * h + d - 1] = explains(3, h, d);
            }
        }
        int seen = 0;
        for (int number = 0; number <= 2000; number++) {
            if (explain[number] && seen++ == i) {
                return number;
            }
        }
        return i == -1 ? seen : NONE;
    }

    private boolean explains(int c, int h, int d) {
        for (int[] strip : strips) {
            int due = strip[0] >= h && (c == 3 || c == strip[1]) ? -d : 0;
            if (strip[2] != 100 && !in(strip[2], due - rules[2], due + rules[2])) {
                return false;
            }
        }
        return true;
    }

    // ---- reels, splices

    int reel(int reel, int first, int frames) {
        if (!in(reel, 0, 7) || !in(first, 0, 100000) || !in(frames, 1, 2000) || first + frames - 1 > 100000) {
            return BAD;
        }
        desk.reels[reel] = new int[] {first, frames, 0};
        return 0;
    }

    int lose(int reel, boolean lost) {
        if (!in(reel, 0, 7)) {
            return BAD;
        }
        int[] told = desk.reels[reel];
        if (told == null) {
            return NO;
        }
        desk.reels[reel] = new int[] {told[0], told[1], lost ? 1 : 0};
        return told[2];
    }

    int from(int shot, int reel, int edge) {
        if (!in(shot, 0, 15) || !in(reel, -1, 7) || !in(edge, 0, 100000)) {
            return BAD;
        }
        if (reel != -1 && desk.reels[reel] == null) {
            return NO;
        }
        desk.from[shot] = reel == -1 ? null : new int[] {reel, edge};
        return 0;
    }

    int edge(int frame) {
        if (frame < 0) {
            return BAD;
        }
        if (!desk.film.hasFrame(frame)) {
            return NO;
        }
        int shot = desk.film.shotOf.get(frame);
        return desk.from[shot] == null ? NONE : desk.from[shot][1] + frame - desk.film.shots.get(shot).first;
    }

    int missing() {
        if (!hasList()) {
            return NO;
        }
        int bits = 0;
        for (int frame = 0; frame < desk.film.lights.size(); frame++) {
            int shot = desk.film.shotOf.get(frame);
            int[] reel = desk.from[shot] == null ? null : desk.reels[desk.from[shot][0]];
            if (reel == null || reel[2] == 1 || !in(edge(frame), reel[0], reel[0] + reel[1] - 1)) {
                bits |= 1 << shot;
            }
        }
        return bits;
    }

    int where(int reel, int edge) {
        if (!in(reel, 0, 7) || !in(edge, 0, 100000)) {
            return BAD;
        }
        if (!hasList()) {
            return NO;
        }
        for (int frame = 0; frame < desk.film.lights.size(); frame++) {
            int[] from = desk.from[desk.film.shotOf.get(frame)];
            if (from != null && from[0] == reel && edge(frame) == edge) {
                return frame;
            }
        }
        return NONE;
    }

    int splice(int k) {
        if (!in(k, 0, 14)) {
            return BAD;
        }
        if (k >= desk.film.shots.size() - 1) {
            return NO;
        }
        return stands(k) ? desk.hold[k] : NONE;
    }

    private boolean stands(int k) {
        int[] ahead = desk.from[k];
        int[] behind = desk.from[k + 1];
        boolean isOneReel = ahead != null && behind != null && ahead[0] == behind[0];
        int first = desk.film.shots.get(k + 1).first;
        return !isOneReel || edge(first - 1) + 1 != edge(first);
    }

    private List<Integer> open() {
        List<Integer> open = new ArrayList<>();
        for (int k = 0; k < desk.film.shots.size() - 1; k++) {
            if (stands(k) && desk.hold[k] == 0) {
                open.add(k);
            }
        }
        return open;
    }

    int run(int bath) {
        if (!in(bath, 0, 1)) {
            return BAD;
        }
        if (!hasList() || !open().isEmpty()) {
            return NO;
        }
        runs++;
        List<Shot> shots = desk.film.shots;
        for (int k = 0; k < shots.size() - 1; k++) {
            int first = shots.get(k + 1).first;
            if (stands(k)) {
                int wear = rules[3] + (isHard(first) ? 2 : 0);
                desk.hold[k] = Math.max(0, desk.hold[k] - wear);
            }
            if (stands(k) && desk.hold[k] == 0) {
                feet(bath, (int) Math.ceil(first / 16.0));
                return k + 1;
            }
        }
        feet(bath, (int) Math.ceil(desk.film.lights.size() / 16.0));
        return shots.size();
    }

    private boolean isHard(int frame) {
        boolean isHard = false;
        for (int colour = 0; colour < 3; colour++) {
            isHard |= Math.abs(light(frame, colour) - light(frame - 1, colour)) >= 10;
        }
        return isHard;
    }

    int mend() {
        List<Integer> open = open();
        for (int k : open) {
            desk.hold[k] = 80;
        }
        return open.size();
    }

    // ---- orders

    int order(int hours, int due, int weight, int negative) {
        if (!in(hours, 1, 40) || !in(due, 0, 400) || !in(weight, 1, 20) || !in(negative, 0, 5)) {
            return BAD;
        }
        if (orders.size() == 8) {
            return FULL;
        }
        orders.add(new int[] {hours, due, weight, negative});
        return orders.size() - 1;
    }

    int drop(int k) {
        if (!in(k, 0, orders.size() - 1)) {
            return BAD;
        }
        orders.remove(k);
        return orders.size();
    }

    /** LATE of the best way through some orders, and that way: tried one behind the other, the lower ones first. */
    private final class Machine {
        final List<Integer> mine = new ArrayList<>();
        int late = Integer.MAX_VALUE;
        List<Integer> way;

        Machine(int bits, int machine) {
            for (int k = 0; k < orders.size(); k++) {
                if ((bits >> orders.get(k)[3] & 1) == machine) {
                    mine.add(k);
                }
            }
            tryAll(new ArrayList<>(), 0, 0);
        }

        private void tryAll(List<Integer> gone, int hour, int sum) {
            if (sum >= late) {
                return;
            }
            if (gone.size() == mine.size()) {
                late = sum;
                way = new ArrayList<>(gone);
            }
            for (int k : mine) {
                if (!gone.contains(k)) {
                    int[] order = orders.get(k);
                    int end = hour + order[0];
                    gone.add(k);
                    tryAll(gone, end, sum + order[2] * Math.max(0, end - order[1]));
                    gone.remove(gone.size() - 1);
                }
            }
        }
    }

    int plan(int what) {
        if (!in(what, 0, 3) && !in(what, 10, 17) && !in(what, 20, 27)) {
            return BAD;
        }
        int bits = 0;
        Machine[] best = null;
        for (int tried = 0; tried < 64; tried++) {
            Machine[] two = {new Machine(tried, 0), new Machine(tried, 1)};
            if (best == null || two[0].late + two[1].late < best[0].late + best[1].late) {
                best = two;
                bits = tried;
            }
        }
        if (what < 2) {
            return what == 0 ? best[0].late + best[1].late : bits;
        }
        if (what < 4) {
            return best[what - 2].way.size();
        }
        List<Integer> way = best[what < 20 ? 0 : 1].way;
        return what % 10 < way.size() ? way.get(what % 10) : NONE;
    }

    int keep() {
        if (kept.size() == 2) {
            return FULL;
        }
        Desk copy = new Desk();
        copy.film = desk.film;
        copy.hold = desk.hold.clone();
        for (int shot = 0; shot < 16; shot++) {
            copy.density[shot] = desk.density[shot].clone();
            copy.aim[shot] = desk.aim[shot].clone();
        }
        copy.from = desk.from.clone();
        copy.reels = desk.reels.clone();
        kept.add(copy);
        return kept.size();
    }

    int back() {
        if (kept.isEmpty()) {
            return NO;
        }
        desk = kept.remove(kept.size() - 1);
        return kept.size();
    }

    int count(int what) {
        if (!in(what, 0, 6)) {
            return BAD;
        }
        int told = 0;
        for (int[] reel : desk.reels) {
            told += reel == null ? 0 : 1;
        }
        return new int[] {text.length(), strips.size(), told, orders.size(), open().size(), kept.size(), runs}[what];
    }
}
