import java.util.Arrays;

/** Lights for each scene: a film laboratory. The promises that it keeps are numbered in DOC.md. */
public final class PrinterLights {
    public static final int BAD = -1, NO = -2, FULL = -3, NONE = -4;

    /** BAD where an EXPOSURE or an ACTIVITY, which may be below 0, is asked. */
    private static final int BAD_BELOW = -1000;
    /** BAD where an AIM, which may be -1, is asked. */
    private static final int BAD_SHOT = -100;

    private static final int COLOURS = 3, STOCKS = 3, BATHS = 2, SHOTS = 16, REELS = 8;
    private static final int MAX_POINTS = 50, MAX_DENSITY = 60, MAX_TONE = 255, MAX_EDGE = 100000;
    private static final int FRAMES_A_FOOT = 16;
    private static final int MAX_KEPT = 2;

    private static final int WAIT = 0, NEAR = 1, DOUBT = 2, WEAR = 3;
    private static final int[] RULES_AT_FIRST = {6, 6, 0, 4};
    private static final int[] RULES_LOW = {1, 0, 0, 1};
    private static final int[] RULES_HIGH = {48, 60, 3, 20};

    private final Tones tones = new Tones();
    private final int[] rules = RULES_AT_FIRST.clone();
    private final Text text = new Text();
    /** What the latest reading of THE TEXT came to; it is no LIST before it is LOADED. */
    private final Scenes draft = new Scenes();
    private final Job job = new Job();
    private final Job firstKept = new Job();
    private final Job secondKept = new Job();
    private final Clock clock = new Clock();
    private final Grader grader = new Grader();
    private final Strips strips = new Strips();
    private final Orders orders = new Orders();
    private final Planner planner = new Planner();
    private int kept;
    private int runs;

    public PrinterLights() {
    }

    // ---- tones

    public int table(int stock, int colour, int k, int v) {
        if (!isStock(stock) || !isColour(colour) || !isWithin(k, 0, Tones.STEPS) || !isWithin(v, 0, MAX_TONE)) {
            return BAD;
        }
        return tones.tell(stock, colour, k, v);
    }

    public int bath(int bath, int what, int v) {
        if (!isBath(bath)) {
            return BAD;
        }
        if (what == 0 && isWithin(v, 0, Tones.MAX_STRENGTH)) {
            return swap(tones.strength, bath, v);
        }
        if (what == 1 && isWithin(v, 1, Tones.MAX_TIRE)) {
            return swap(tones.tire, bath, v);
        }
        return BAD;
    }

    public int lamp(int colour, int v) {
        if (!isColour(colour) || !isWithin(v, 0, Tones.MAX_SUNK)) {
            return BAD;
        }
        return swap(tones.sunk, colour, v);
    }

    public int rule(int what, int v) {
        if (!isWithin(what, WAIT, WEAR) || !isWithin(v, RULES_LOW[what], RULES_HIGH[what])) {
            return BAD;
        }
        return swap(rules, what, v);
    }

    public int bathTold(int bath, int what) {
        if (!isBath(bath)) {
            return BAD_BELOW;
        }
        switch (what) {
            case 0:
                return tones.strength[bath];
            case 1:
                return tones.tire[bath];
            case 2:
                return tones.footage[bath];
            case 3:
                return tones.activity(bath);
            default:
                return BAD_BELOW;
        }
    }

    public int feet(int bath, int n) {
        if (!isBath(bath) || !isWithin(n, 1, Tones.MAX_FEET)) {
            return BAD;
        }
        tones.pass(bath, n);
        return tones.strength[bath];
    }

    public int exposure(int colour, int points, int density, int bath) {
        if (!isColour(colour) || !isPrint(points, density) || !isBath(bath)) {
            return BAD_BELOW;
        }
        return tones.exposureOf(colour, points, density, bath);
    }

    public int tone(int stock, int colour, int points, int density, int bath, int g) {
        if (!isStock(stock) || !isColour(colour) || !isPrint(points, density) || !isBath(bath)) {
            return BAD;
        }
        if (!isWithin(g, 1, Tones.MAX_GENERATION)) {
            return BAD;
        }
        int tone = tones.printed(stock, colour, points, density, bath);
        for (int copy = 2; copy <= g; copy++) {
            tone = tones.printed(stock, colour, points, Tones.densityOf(tone), bath);
        }
        return tone;
    }

    // ---- lists

    public int write(int n, long v) {
        if (!isWithin(n, 1, Text.MAX_BYTES_AT_ONCE)) {
            return BAD;
        }
        return text.append(n, v) ? text.length : FULL;
    }

    public int clear() {
        int was = text.length;
        text.length = 0;
        return was;
    }

    public int fault() {
        return text.readInto(draft);
    }

    public int load() {
        if (text.readInto(draft) != NONE || draft.shots == 0) {
            return NO;
        }
        job.begin(draft);
        return job.scenes.frames();
    }

    public int light(int frame, int colour) {
        if (frame < 0 || !isColour(colour)) {
            return BAD;
        }
        return job.scenes.hasFrame(frame) ? job.scenes.lightAt(frame, colour) : NO;
    }

    public int shotOf(int frame) {
        if (frame < 0) {
            return BAD;
        }
        return job.scenes.hasFrame(frame) ? job.scenes.shotAt(frame) : NO;
    }

    public int soon(int i) {
        if (i < -1) {
            return BAD;
        }
        if (job.scenes.shots == 0) {
            return NO;
        }
        clock.walk(job.scenes, rules[WAIT]);
        if (i == -1) {
            return clock.soonCount;
        }
        return i < clock.soonCount ? clock.tooSoon[i] : NONE;
    }

    public int list(int what) {
        if (!isWithin(what, 0, 4)) {
            return BAD;
        }
        Scenes scenes = job.scenes;
        if (scenes.shots == 0) {
            return NO;
        }
        switch (what) {
            case 0:
                return scenes.shots;
            case 1:
                return scenes.frames();
            case 2:
                return scenes.copiesOrOne();
            case 3:
                clock.walk(scenes, rules[WAIT]);
                return clock.changes;
            default:
                return scenes.copiesOrOne() * feetOf(scenes.frames());
        }
    }

    // ---- grading

    public int shot(int shot, int colour, int what, int v) {
        if (!isShot(shot) || !isColour(colour)) {
            return BAD_SHOT;
        }
        int cell = shot * COLOURS + colour;
        if (what == 0 && isWithin(v, 0, MAX_DENSITY)) {
            return swap(job.density, cell, v);
        }
        if (what == 1 && isWithin(v, Job.NO_AIM, MAX_TONE)) {
            return swap(job.aim, cell, v);
        }
        return BAD_SHOT;
    }

    public int grade(int stock, int bath, int colour, int shot) {
        if (!isStock(stock) || !isBath(bath) || !isColour(colour) || !isWithin(shot, -1, SHOTS - 1)) {
            return BAD;
        }
        if (job.scenes.shots == 0 || shot >= job.scenes.shots) {
            return NO;
        }
        if (!grader.solve(tones, job, stock, bath, colour, rules[NEAR])) {
            return NONE;
        }
        return shot == -1 ? grader.steps : grader.chosen[shot];
    }

    public int frameTone(int stock, int bath, int colour, int frame) {
        if (!isStock(stock) || !isBath(bath) || !isColour(colour) || frame < 0) {
            return BAD;
        }
        if (!job.scenes.hasFrame(frame)) {
            return NO;
        }
        int density = job.density[job.scenes.shotAt(frame) * COLOURS + colour];
        return tones.printed(stock, colour, job.scenes.lightAt(frame, colour), density, bath);
    }

    // ---- strips

    public int strip(int hour, int colour, int off) {
        boolean isOff = off == Strips.GAP || isWithin(off, -Strips.MAX_OFF, Strips.MAX_OFF);
        if (!isWithin(hour, 0, Strips.LAST_HOUR) || !isColour(colour) || !isOff) {
            return BAD;
        }
        return strips.add(hour, colour, off) ? strips.size : FULL;
    }

    public int noStrips() {
        int was = strips.size;
        strips.size = 0;
        return was;
    }

    public int drift(int i) {
        if (i < -1) {
            return BAD;
        }
        strips.weigh(rules[DOUBT]);
        return i == -1 ? strips.countDrifts() : strips.driftNumber(i);
    }

    // ---- reels, splices

    public int reel(int reel, int first, int frames) {
        if (!isReel(reel) || !isWithin(first, 0, MAX_EDGE) || !isWithin(frames, 1, Reels.MAX_FRAMES)) {
            return BAD;
        }
        if (first + frames - 1 > MAX_EDGE) {
            return BAD;
        }
        job.reels.tell(reel, first, frames);
        return 0;
    }

    public int lose(int reel, boolean lost) {
        if (!isReel(reel)) {
            return BAD;
        }
        if (!job.reels.isTold(reel)) {
            return NO;
        }
        int was = job.reels.lost[reel] ? 1 : 0;
        job.reels.lost[reel] = lost;
        return was;
    }

    public int from(int shot, int reel, int edge) {
        if (!isShot(shot) || !isWithin(reel, Job.NO_REEL, REELS - 1) || !isWithin(edge, 0, MAX_EDGE)) {
            return BAD;
        }
        if (reel != Job.NO_REEL && !job.reels.isTold(reel)) {
            return NO;
        }
        job.reelOf[shot] = reel;
        job.edgeOf[shot] = edge;
        return 0;
    }

    public int edge(int frame) {
        if (frame < 0) {
            return BAD;
        }
        return job.scenes.hasFrame(frame) ? job.edgeAt(frame) : NO;
    }

    public int missing() {
        if (job.scenes.shots == 0) {
            return NO;
        }
        int bits = 0;
        for (int shot = 0; shot < job.scenes.shots; shot++) {
            if (job.isMissing(shot)) {
                bits |= 1 << shot;
            }
        }
        return bits;
    }

    public int where(int reel, int edge) {
        if (!isReel(reel) || !isWithin(edge, 0, MAX_EDGE)) {
            return BAD;
        }
        return job.scenes.shots == 0 ? NO : job.frameWith(reel, edge);
    }

    public int splice(int k) {
        if (!isWithin(k, 0, SHOTS - 2)) {
            return BAD;
        }
        if (k + 1 >= job.scenes.shots) {
            return NO;
        }
        return job.isSpliced(k) ? job.hold[k] : NONE;
    }

    public int run(int bath) {
        if (!isBath(bath)) {
            return BAD;
        }
        if (job.scenes.shots == 0 || job.countOpen() > 0) {
            return NO;
        }
        int through = job.wearSplices(rules[WEAR]);
        tones.pass(bath, feetOf(job.scenes.start[through]));
        runs++;
        return through;
    }

    public int mend() {
        return job.mendOpen();
    }

    // ---- orders

    public int order(int hours, int due, int weight, int negative) {
        if (!isWithin(hours, 1, Orders.MAX_HOURS) || !isWithin(due, 0, Orders.LAST_DUE)) {
            return BAD;
        }
        if (!isWithin(weight, 1, Orders.MAX_WEIGHT) || !isWithin(negative, 0, Orders.NEGATIVES - 1)) {
            return BAD;
        }
        return orders.add(hours, due, weight, negative) ? orders.size - 1 : FULL;
    }

    public int drop(int k) {
        if (!isWithin(k, 0, orders.size - 1)) {
            return BAD;
        }
        orders.remove(k);
        return orders.size;
    }

    public int plan(int what) {
        boolean isPlace = isWithin(what, 10, 10 + Orders.MOST - 1) || isWithin(what, 20, 20 + Orders.MOST - 1);
        if (!isWithin(what, 0, 3) && !isPlace) {
            return BAD;
        }
        planner.solve(orders);
        switch (what) {
            case 0:
                return planner.late;
            case 1:
                return planner.bits;
            case 2:
                return planner.sizes[0];
            case 3:
                return planner.sizes[1];
            default:
                return planner.orderAt(what / 10 - 1, what % 10);
        }
    }

    public int keep() {
        if (kept >= MAX_KEPT) {
            return FULL;
        }
        (kept == 0 ? firstKept : secondKept).copyFrom(job);
        kept++;
        return kept;
    }

    public int back() {
        if (kept <= 0) {
            return NO;
        }
        kept--;
        job.copyFrom(kept == 0 ? firstKept : secondKept);
        return kept;
    }

    public int count(int what) {
        switch (what) {
            case 0:
                return text.length;
            case 1:
                return strips.size;
            case 2:
                return job.reels.countTold();
            case 3:
                return orders.size;
            case 4:
                return job.countOpen();
            case 5:
                return kept;
            case 6:
                return runs;
            default:
                return BAD;
        }
    }

    // ---- what several calls share

    private static boolean isWithin(int v, int low, int high) {
        return v >= low && v <= high;
    }

    private static boolean isStock(int stock) {
        return isWithin(stock, 0, STOCKS - 1);
    }

    private static boolean isColour(int colour) {
        return isWithin(colour, 0, COLOURS - 1);
    }

    private static boolean isBath(int bath) {
        return isWithin(bath, 0, BATHS - 1);
    }

    private static boolean isShot(int shot) {
        return isWithin(shot, 0, SHOTS - 1);
    }

    private static boolean isReel(int reel) {
        return isWithin(reel, 0, REELS - 1);
    }

    private static boolean isPrint(int points, int density) {
        return isWithin(points, 1, MAX_POINTS) && isWithin(density, 0, MAX_DENSITY);
    }

    private static int feetOf(int frames) {
        return (frames + FRAMES_A_FOOT - 1) / FRAMES_A_FOOT;
    }

    /** Puts v in a place that the caller has tested, and answers what was there. */
    private static int swap(int[] row, int place, int v) {
        int was = row[place];
        row[place] = v;
        return was;
    }

    /** Whether bit k of a set is there. */
    private static boolean isIn(int set, int k) {
        return ((set >> k) & 1) == 1;
    }

    private static void copy(int[] from, int[] to) {
        System.arraycopy(from, 0, to, 0, Math.min(from.length, to.length));
    }

    /** STOCKS' TABLES, BATHS and LAMPS: what TONE a print has. */
    private static final class Tones {
        static final int STEPS = 8, STEP = 8, LAST_EXPOSURE = STEPS * STEP;
        static final int MAX_STRENGTH = 1000, MAX_TIRE = 50, MAX_SUNK = 20, MAX_FEET = 10000, MAX_GENERATION = 5;
        static final int[] TABLE_AT_FIRST = {0, 4, 20, 60, 110, 160, 205, 235, 250};

        final int[] tables = new int[STOCKS * COLOURS * (STEPS + 1)];
        final int[] strength = {800, 800};
        final int[] tire = {5, 5};
        final int[] footage = {0, 0};
        final int[] sunk = {0, 0, 0};

        Tones() {
            for (int place = 0; place < tables.length; place++) {
                tables[place] = TABLE_AT_FIRST[place % TABLE_AT_FIRST.length];
            }
        }

        int tell(int stock, int colour, int k, int v) {
            int place = tableStart(stock, colour) + k;
            if (k > 0 && v < tables[place - 1]) {
                return NO;
            }
            if (k < STEPS && v > tables[place + 1]) {
                return NO;
            }
            return swap(tables, place, v);
        }

        int activity(int bath) {
            return Math.floorDiv(strength[bath] - 800, 40);
        }

        void pass(int bath, int n) {
            int before = footage[bath];
            footage[bath] = before + n;
            int hundreds = footage[bath] / 100 - before / 100;
            strength[bath] = Math.max(0, strength[bath] - hundreds * tire[bath]);
        }

        int exposureOf(int colour, int points, int density, int bath) {
            return points + 20 - density - sunk[colour] + activity(bath);
        }

        int printed(int stock, int colour, int points, int density, int bath) {
            return toneAt(tableStart(stock, colour), exposureOf(colour, points, density, bath));
        }

        static int densityOf(int tone) {
            return MAX_DENSITY - Math.min(MAX_DENSITY, tone / 5);
        }

        private int toneAt(int start, int exposure) {
            if (exposure <= 0) {
                return tables[start];
            }
            if (exposure >= LAST_EXPOSURE) {
                return tables[start + STEPS];
            }
            int place = start + exposure / STEP;
            return tables[place] + (tables[place + 1] - tables[place]) * (exposure % STEP) / STEP;
        }

        private static int tableStart(int stock, int colour) {
            return (stock * COLOURS + colour) * (STEPS + 1);
        }
    }

    /** THE TEXT, and how its ITEMS are read. */
    private static final class Text {
        static final int MOST = 400, MAX_BYTES_AT_ONCE = 8, MAX_FIGURES = 4, MAX_NUMBERS = 5;
        static final int MAX_FRAMES = 400, MAX_LESS = 40, MAX_COPIES = 999;

        final byte[] bytes = new byte[MOST];
        int length;
        /** The numbers of the ITEM that is being read. */
        final int[] numbers = new int[MAX_NUMBERS];
        int found;

        boolean append(int n, long v) {
            if (length + n > MOST) {
                return false;
            }
            for (int left = n - 1; left >= 0; left--) {
                bytes[length] = (byte) (v >> (8 * left));
                length++;
            }
            return true;
        }

        /** FAULT or NONE; the scenes then hold all ITEMS ahead of the FAULT. */
        int readInto(Scenes scenes) {
            scenes.empty();
            int start = 0;
            for (int i = 0; i < length; i++) {
                if (bytes[i] == ';') {
                    if (!takesItem(start, i, scenes)) {
                        return start;
                    }
                    start = i + 1;
                }
            }
            return start < length ? start : NONE;
        }

        private boolean takesItem(int start, int end, Scenes scenes) {
            if (!readNumbers(start + 1, end)) {
                return false;
            }
            switch (bytes[start]) {
                case 's':
                    return takesShot(scenes);
                case 'f':
                    return takesFade(scenes);
                case 'e':
                    return takesEffect(scenes);
                case 'c':
                    return takesCopies(scenes);
                default:
                    return false;
            }
        }

        /** Reads from a place up to the ; at end, which ends the last number as a , ends the others. */
        private boolean readNumbers(int from, int end) {
            found = 0;
            int figures = 0;
            int value = 0;
            for (int i = from; i <= end; i++) {
                int sign = bytes[i];
                if (sign >= '0' && sign <= '9' && figures < MAX_FIGURES) {
                    value = value * 10 + sign - '0';
                    figures++;
                } else if ((sign == ',' || i == end) && figures > 0 && found < MAX_NUMBERS) {
                    numbers[found] = value;
                    found++;
                    figures = 0;
                    value = 0;
                } else {
                    return false;
                }
            }
            return found > 0;
        }

        private boolean takesShot(Scenes scenes) {
            if (found != 5 || numbers[0] != scenes.shots || scenes.shots >= SHOTS) {
                return false;
            }
            if (!isWithin(numbers[1], 1, MAX_FRAMES) || !areLights(2)) {
                return false;
            }
            scenes.addShot(numbers[1], numbers[2], numbers[3], numbers[4]);
            return true;
        }

        private boolean takesFade(Scenes scenes) {
            int shot = scenes.shots - 1;
            if (found != 4 || shot < 0 || scenes.fade[shot] != 0) {
                return false;
            }
            if (!isWithin(numbers[0], 1, scenes.framesOf(shot)) || !areLights(1)) {
                return false;
            }
            scenes.addFade(numbers[0], numbers[1], numbers[2], numbers[3]);
            return true;
        }

        private boolean takesEffect(Scenes scenes) {
            int shot = scenes.shots - 1;
            if (found != 3 || shot < 0 || scenes.effects[shot] >= Scenes.EFFECTS) {
                return false;
            }
            boolean isInShot = numbers[1] >= 1 && numbers[0] + numbers[1] <= scenes.framesOf(shot);
            if (!isInShot || !isWithin(numbers[2], 1, MAX_LESS)) {
                return false;
            }
            scenes.addEffect(numbers[0], numbers[1], numbers[2]);
            return true;
        }

        private boolean takesCopies(Scenes scenes) {
            if (found != 1 || scenes.copies != 0 || !isWithin(numbers[0], 1, MAX_COPIES)) {
                return false;
            }
            scenes.copies = numbers[0];
            return true;
        }

        private boolean areLights(int at) {
            return isWithin(numbers[at], 1, MAX_POINTS) && isWithin(numbers[at + 1], 1, MAX_POINTS)
                && isWithin(numbers[at + 2], 1, MAX_POINTS);
        }
    }

    /** What a TEXT without FAULT says: SHOTS, FADES, EFFECTS, COPIES. Without a SHOT there is no LIST. */
    private static final class Scenes {
        static final int EFFECTS = 4;

        int shots;
        /** 0: none told. */
        int copies;
        /** The first frame of each SHOT; behind the last one, how many frames there are. */
        final int[] start = new int[SHOTS + 1];
        final int[] own = new int[SHOTS * COLOURS];
        /** Over how many frames a SHOT's FADE goes; 0: it has none. */
        final int[] fade = new int[SHOTS];
        final int[] fadeTo = new int[SHOTS * COLOURS];
        final int[] effects = new int[SHOTS];
        final int[] effectFrom = new int[SHOTS * EFFECTS];
        /** The first frame behind an EFFECT, counted in its SHOT. */
        final int[] effectEnd = new int[SHOTS * EFFECTS];
        final int[] effectLess = new int[SHOTS * EFFECTS];

        void empty() {
            shots = 0;
            copies = 0;
        }

        void addShot(int frames, int red, int green, int blue) {
            start[shots + 1] = start[shots] + frames;
            putLights(own, shots, red, green, blue);
            fade[shots] = 0;
            effects[shots] = 0;
            shots++;
        }

        void addFade(int over, int red, int green, int blue) {
            fade[shots - 1] = over;
            putLights(fadeTo, shots - 1, red, green, blue);
        }

        void addEffect(int from, int frames, int less) {
            int place = (shots - 1) * EFFECTS + effects[shots - 1];
            effectFrom[place] = from;
            effectEnd[place] = from + frames;
            effectLess[place] = less;
            effects[shots - 1]++;
        }

        int frames() {
            return start[shots];
        }

        int framesOf(int shot) {
            return start[shot + 1] - start[shot];
        }

        int copiesOrOne() {
            return Math.max(1, copies);
        }

        boolean hasFrame(int frame) {
            return shots > 0 && frame >= 0 && frame < frames();
        }

        /** The SHOT of a frame that there is. */
        int shotAt(int frame) {
            int shot = 0;
            while (shot < shots - 1 && frame >= start[shot + 1]) {
                shot++;
            }
            return shot;
        }

        int lightAt(int frame, int colour) {
            int shot = shotAt(frame);
            return lightIn(shot, frame - start[shot], colour);
        }

        int lightIn(int shot, int i, int colour) {
            int place = shot * COLOURS + colour;
            int light = own[place];
            if (isInFade(shot, i) && fade[shot] > 0) {
                int j = i - (framesOf(shot) - fade[shot]) + 1;
                light += (fadeTo[place] - own[place]) * j / fade[shot];
            }
            int end = shot * EFFECTS + effects[shot];
            for (int e = shot * EFFECTS; e < end; e++) {
                if (i >= effectFrom[e] && i < effectEnd[e]) {
                    light = Math.max(1, light - effectLess[e]);
                }
            }
            return light;
        }

        boolean isInFade(int shot, int i) {
            return i >= framesOf(shot) - fade[shot];
        }

        /** Whether an EFFECT of the SHOT has its first frame, or the first one behind it, at i. */
        boolean isAtEffect(int shot, int i) {
            int end = shot * EFFECTS + effects[shot];
            for (int e = shot * EFFECTS; e < end; e++) {
                if (i == effectFrom[e] || i == effectEnd[e]) {
                    return true;
                }
            }
            return false;
        }

        /** The most POINTS by which a COLOUR changes from the last frame of a SHOT to the next SHOT. */
        int jumpBehind(int shot) {
            int most = 0;
            for (int colour = 0; colour < COLOURS; colour++) {
                int ahead = lightIn(shot, framesOf(shot) - 1, colour);
                most = Math.max(most, Math.abs(lightIn(shot + 1, 0, colour) - ahead));
            }
            return most;
        }

        boolean changesWithin(int shot, int i) {
            for (int colour = 0; colour < COLOURS; colour++) {
                if (lightIn(shot, i, colour) != lightIn(shot, i - 1, colour)) {
                    return true;
                }
            }
            return false;
        }

        void copyFrom(Scenes other) {
            shots = other.shots;
            copies = other.copies;
            copy(other.start, start);
            copy(other.own, own);
            copy(other.fade, fade);
            copy(other.fadeTo, fadeTo);
            copy(other.effects, effects);
            copy(other.effectFrom, effectFrom);
            copy(other.effectEnd, effectEnd);
            copy(other.effectLess, effectLess);
        }

        private static void putLights(int[] row, int shot, int red, int green, int blue) {
            row[shot * COLOURS] = red;
            row[shot * COLOURS + 1] = green;
            row[shot * COLOURS + 2] = blue;
        }
    }

    /** THE CLOCK: where LIGHT changes, and where that is TOO SOON. */
    private static final class Clock {
        /** A place for each SHOT is enough: within a SHOT LIGHT changes only where any change is let. */
        final int[] tooSoon = new int[SHOTS];
        int soonCount;
        int changes;
        private int latest;

        void walk(Scenes scenes, int wait) {
            soonCount = 0;
            changes = 0;
            for (int shot = 0; shot < scenes.shots; shot++) {
                if (shot > 0 && scenes.jumpBehind(shot - 1) > 0) {
                    changeAtCut(scenes, shot, wait);
                }
                walkWithin(scenes, shot);
            }
        }

        private void changeAtCut(Scenes scenes, int shot, int wait) {
            int frame = scenes.start[shot];
            boolean isLet = changes == 0 || frame - latest >= wait || isFree(scenes, shot);
            if (!isLet && soonCount < tooSoon.length) {
                tooSoon[soonCount] = frame;
                soonCount++;
            }
            note(frame);
        }

        private static boolean isFree(Scenes scenes, int shot) {
            return scenes.isInFade(shot, 0) || scenes.isAtEffect(shot, 0)
                || scenes.isAtEffect(shot - 1, scenes.framesOf(shot - 1));
        }

        private void walkWithin(Scenes scenes, int shot) {
            int frames = scenes.framesOf(shot);
            for (int i = 1; i < frames; i++) {
                boolean mayChange = scenes.isInFade(shot, i) || scenes.isAtEffect(shot, i);
                if (mayChange && scenes.changesWithin(shot, i)) {
                    note(scenes.start[shot] + i);
                }
            }
        }

        private void note(int frame) {
            changes++;
            latest = frame;
        }
    }

    /** What is KEPT: THE LIST with its SPLICES, what is told of SHOTS, and REELS. */
    private static final class Job {
        static final int NO_AIM = -1, NO_REEL = -1, DENSITY_AT_FIRST = 30;
        static final int HOLD_AT_FIRST = 100, HOLD_BY_HAND = 80, JUMP = 10, JUMP_WEAR = 2;

        final Scenes scenes = new Scenes();
        final int[] density = new int[SHOTS * COLOURS];
        final int[] aim = new int[SHOTS * COLOURS];
        final int[] reelOf = new int[SHOTS];
        final int[] edgeOf = new int[SHOTS];
        final Reels reels = new Reels();
        final int[] hold = new int[SHOTS - 1];

        Job() {
            Arrays.fill(density, DENSITY_AT_FIRST);
            Arrays.fill(aim, NO_AIM);
            Arrays.fill(reelOf, NO_REEL);
        }

        void begin(Scenes read) {
            scenes.copyFrom(read);
            Arrays.fill(hold, HOLD_AT_FIRST);
        }

        int edgeAt(int frame) {
            int shot = scenes.shotAt(frame);
            return reelOf[shot] == NO_REEL ? NONE : edgeOf[shot] + frame - scenes.start[shot];
        }

        int frameWith(int reel, int edge) {
            for (int shot = 0; shot < scenes.shots; shot++) {
                int i = edge - edgeOf[shot];
                if (reelOf[shot] == reel && i >= 0 && i < scenes.framesOf(shot)) {
                    return scenes.start[shot] + i;
                }
            }
            return NONE;
        }

        boolean isMissing(int shot) {
            return !reels.hasAll(reelOf[shot], edgeOf[shot], scenes.framesOf(shot));
        }

        /** Whether a splice stands behind SHOT k. */
        boolean isSpliced(int k) {
            if (k + 1 >= scenes.shots) {
                return false;
            }
            boolean oneReel = reelOf[k] != NO_REEL && reelOf[k] == reelOf[k + 1];
            return !oneReel || edgeOf[k] + scenes.framesOf(k) != edgeOf[k + 1];
        }

        /** Wears splices till one OPENS; answers how many SHOTS went through. */
        int wearSplices(int wear) {
            for (int k = 0; k + 1 < scenes.shots; k++) {
                if (isSpliced(k)) {
                    int more = scenes.jumpBehind(k) >= JUMP ? JUMP_WEAR : 0;
                    hold[k] = Math.max(0, hold[k] - wear - more);
                    if (hold[k] == 0) {
                        return k + 1;
                    }
                }
            }
            return scenes.shots;
        }

        int countOpen() {
            int open = 0;
            for (int k = 0; k + 1 < scenes.shots; k++) {
                if (isOpen(k)) {
                    open++;
                }
            }
            return open;
        }

        int mendOpen() {
            int open = countOpen();
            for (int k = 0; k + 1 < scenes.shots; k++) {
                if (isOpen(k)) {
                    hold[k] = HOLD_BY_HAND;
                }
            }
            return open;
        }

        void copyFrom(Job other) {
            scenes.copyFrom(other.scenes);
            copy(other.density, density);
            copy(other.aim, aim);
            copy(other.reelOf, reelOf);
            copy(other.edgeOf, edgeOf);
            reels.copyFrom(other.reels);
            copy(other.hold, hold);
        }

        private boolean isOpen(int k) {
            return isSpliced(k) && hold[k] == 0;
        }
    }

    /** REELS as they were told. */
    private static final class Reels {
        static final int MAX_FRAMES = 2000;

        final int[] first = new int[REELS];
        /** 0: the REEL was not told. */
        final int[] frames = new int[REELS];
        final boolean[] lost = new boolean[REELS];

        void tell(int reel, int firstEdge, int frameCount) {
            first[reel] = firstEdge;
            frames[reel] = frameCount;
            lost[reel] = false;
        }

        void copyFrom(Reels other) {
            copy(other.first, first);
            copy(other.frames, frames);
            for (int reel = 0; reel < REELS; reel++) {
                lost[reel] = other.lost[reel];
            }
        }

        boolean isTold(int reel) {
            return frames[reel] > 0;
        }

        int countTold() {
            int told = 0;
            for (int reel = 0; reel < REELS; reel++) {
                if (isTold(reel)) {
                    told++;
                }
            }
            return told;
        }

        /** Whether all frames of a SHOT are there. */
        boolean hasAll(int reel, int edge, int shotFrames) {
            if (!isReel(reel) || lost[reel]) {
                return false;
            }
            return edge >= first[reel] && edge + shotFrames <= first[reel] + frames[reel];
        }
    }

    /** The POINTS by which SHOTS come out as told with the fewest steps, for one COLOUR. */
    private static final class Grader {
        /** Above any sum of steps; what is this or more can't be. */
        static final int FAR = 1000000;

        /** Of each SHOT and POINTS less 1: the least sum of steps from there to the last SHOT. */
        final int[] toGo = new int[SHOTS * MAX_POINTS];
        /** Of POINTS less 1: the least toGo of the SHOT behind together with the step to it. */
        final int[] reach = new int[MAX_POINTS];
        final int[] chosen = new int[SHOTS];
        int steps;

        /** False: some SHOT has no such POINTS. */
        boolean solve(Tones tones, Job job, int stock, int bath, int colour, int near) {
            int shots = job.scenes.shots;
            Arrays.fill(reach, 0);
            for (int shot = shots - 1; shot >= 0; shot--) {
                int place = shot * COLOURS + colour;
                for (int p = 1; p <= MAX_POINTS; p++) {
                    int tone = tones.printed(stock, colour, p, job.density[place], bath);
                    boolean isNear = job.aim[place] == Job.NO_AIM || Math.abs(tone - job.aim[place]) <= near;
                    toGo[shot * MAX_POINTS + p - 1] = isNear ? reach[p - 1] : FAR;
                }
                reachFrom(shot);
            }
            return choose(shots);
        }

        private void reachFrom(int shot) {
            for (int i = 0; i < MAX_POINTS; i++) {
                int below = i > 0 ? reach[i - 1] + 1 : FAR;
                reach[i] = Math.min(toGo[shot * MAX_POINTS + i], below);
            }
            for (int i = MAX_POINTS - 2; i >= 0; i--) {
                reach[i] = Math.min(reach[i], reach[i + 1] + 1);
            }
        }

        private boolean choose(int shots) {
            steps = 0;
            for (int shot = 0; shot < shots; shot++) {
                int best = 0;
                int least = FAR;
                for (int p = 1; p <= MAX_POINTS; p++) {
                    int step = shot > 0 ? Math.abs(p - chosen[shot - 1]) : 0;
                    int sum = step + toGo[shot * MAX_POINTS + p - 1];
                    if (sum < least) {
                        least = sum;
                        best = p;
                    }
                }
                if (best == 0) {
                    return false;
                }
                if (shot == 0) {
                    steps = least;
                }
                chosen[shot] = best;
            }
            return true;
        }
    }

    /** STRIPS, and the DRIFTS that EXPLAIN them. */
    private static final class Strips {
        static final int MOST = 20, LAST_HOUR = 99, MAX_OFF = 10, GAP = 100;
        static final int SIZES = 5, THE_BATH = COLOURS, FIRST_OF_BATH = 1501, LAST_DRIFT = 2000;

        final int[] hour = new int[MOST];
        final int[] colourOf = new int[MOST];
        final int[] off = new int[MOST];
        int size;
        /** Of what sank (a LAMP by its COLOUR, or THE BATH) and by how much: the HOURS that EXPLAIN. */
        final int[] earliest = new int[(COLOURS + 1) * SIZES];
        final int[] latest = new int[(COLOURS + 1) * SIZES];
        boolean isSteady;

        boolean add(int atHour, int colour, int howFar) {
            if (size >= MOST) {
                return false;
            }
            hour[size] = atHour;
            colourOf[size] = colour;
            off[size] = howFar;
            size++;
            return true;
        }

        void weigh(int doubt) {
            isSteady = true;
            Arrays.fill(earliest, 0);
            Arrays.fill(latest, LAST_HOUR);
            for (int i = 0; i < size; i++) {
                if (off[i] != GAP) {
                    weighStrip(i, doubt);
                }
            }
        }

        int countDrifts() {
            int seen = 0;
            for (int number = 0; number <= LAST_DRIFT; number++) {
                if (explains(number)) {
                    seen++;
                }
            }
            return seen;
        }

        int driftNumber(int i) {
            int seen = 0;
            for (int number = 0; number <= LAST_DRIFT; number++) {
                if (explains(number)) {
                    if (seen == i) {
                        return number;
                    }
                    seen++;
                }
            }
            return NONE;
        }

        private void weighStrip(int i, int doubt) {
            boolean fitsNone = Math.abs(off[i]) <= doubt;
            isSteady = isSteady && fitsNone;
            for (int what = 0; what <= THE_BATH; what++) {
                boolean isTouched = what == THE_BATH || what == colourOf[i];
                for (int d = 1; d <= SIZES; d++) {
                    int place = what * SIZES + d - 1;
                    if (!fitsNone) {
                        latest[place] = Math.min(latest[place], isTouched ? hour[i] : -1);
                    }
                    if (isTouched && Math.abs(off[i] + d) > doubt) {
                        earliest[place] = Math.max(earliest[place], hour[i] + 1);
                    }
                }
            }
        }

        private boolean explains(int number) {
            if (number == 0) {
                return isSteady;
            }
            boolean isBathSunk = number >= FIRST_OF_BATH;
            int place = number - (isBathSunk ? FIRST_OF_BATH : 1);
            int d = place % SIZES;
            int rest = place / SIZES;
            int what = isBathSunk ? THE_BATH : rest % COLOURS;
            int from = isBathSunk ? rest : rest / COLOURS;
            return from >= earliest[what * SIZES + d] && from <= latest[what * SIZES + d];
        }
    }

    /** ORDERS by their numbers. */
    private static final class Orders {
        static final int MOST = 8, NEGATIVES = 6, MAX_HOURS = 40, LAST_DUE = 400, MAX_WEIGHT = 20;

        final int[] hours = new int[MOST];
        final int[] due = new int[MOST];
        final int[] weight = new int[MOST];
        final int[] negative = new int[MOST];
        int size;

        boolean add(int work, int dueAt, int heavy, int ofNegative) {
            if (size >= MOST) {
                return false;
            }
            hours[size] = work;
            due[size] = dueAt;
            weight[size] = heavy;
            negative[size] = ofNegative;
            size++;
            return true;
        }

        void remove(int k) {
            size--;
            for (int i = k; i < size; i++) {
                hours[i] = hours[i + 1];
                due[i] = due[i + 1];
                weight[i] = weight[i + 1];
                negative[i] = negative[i + 1];
            }
        }

        int lateness(int k, int end) {
            return weight[k] * Math.max(0, end - due[k]);
        }

        /** The orders, as a set of bits, whose NEGATIVES are among the bits. */
        int setOn(int bits) {
            int set = 0;
            for (int k = 0; k < size; k++) {
                if (isIn(bits, negative[k])) {
                    set |= 1 << k;
                }
            }
            return set;
        }
    }

    /** THE BEST way through ORDERS. A set of orders is an int whose bit k stands for order k. */
    private static final class Planner {
        static final int SETS = 1 << Orders.MOST;

        /** Of each set: hours of work together. */
        final int[] work = new int[SETS];
        /** Of each set: the least LATE if a MACHINE begins with it. */
        final int[] leastFirst = new int[SETS];
        /** Of each set: the least LATE if a MACHINE ends with it. */
        final int[] leastLast = new int[SETS];
        final int[] sequences = new int[2 * Orders.MOST];
        final int[] sizes = new int[2];
        int late;
        int bits;

        void solve(Orders orders) {
            int all = (1 << orders.size) - 1;
            weighSets(orders, all);
            bits = 0;
            late = leastFirst[all];
            for (int tried = 1; tried < (1 << Orders.NEGATIVES); tried++) {
                int onOne = orders.setOn(tried);
                int sum = leastFirst[all ^ onOne] + leastFirst[onOne];
                if (sum < late) {
                    late = sum;
                    bits = tried;
                }
            }
            int chosen = orders.setOn(bits);
            arrange(orders, 0, all ^ chosen);
            arrange(orders, 1, chosen);
        }

        int orderAt(int machine, int i) {
            return i < sizes[machine] ? sequences[machine * Orders.MOST + i] : NONE;
        }

        private void weighSets(Orders orders, int all) {
            work[0] = 0;
            leastFirst[0] = 0;
            for (int set = 1; set <= all; set++) {
                int low = Integer.numberOfTrailingZeros(set);
                work[set] = work[set ^ (1 << low)] + orders.hours[low];
                int least = Integer.MAX_VALUE;
                for (int k = low; k < orders.size; k++) {
                    if (isIn(set, k)) {
                        least = Math.min(least, leastFirst[set ^ (1 << k)] + orders.lateness(k, work[set]));
                    }
                }
                leastFirst[set] = least;
            }
        }

        /** The sequence of a MACHINE's orders that is lowest from the first on, of those with least LATE. */
        private void arrange(Orders orders, int machine, int set) {
            weighEndings(orders, set);
            sizes[machine] = Integer.bitCount(set);
            int left = set;
            for (int i = 0; i < sizes[machine]; i++) {
                int next = bestNext(orders, set, left);
                sequences[machine * Orders.MOST + i] = next;
                left ^= 1 << next;
            }
        }

        private void weighEndings(Orders orders, int set) {
            leastLast[0] = 0;
            for (int left = 1; left <= set; left++) {
                if ((left & ~set) == 0) {
                    leastLast[left] = lateWith(orders, set, left, bestNext(orders, set, left));
                }
            }
        }

        /** The lowest order of those left that may come next; of the smaller sets leastLast is known. */
        private int bestNext(Orders orders, int set, int left) {
            int best = 0;
            int least = Integer.MAX_VALUE;
            for (int k = 0; k < orders.size; k++) {
                if (isIn(left, k)) {
                    int sum = lateWith(orders, set, left, k);
                    if (sum < least) {
                        least = sum;
                        best = k;
                    }
                }
            }
            return best;
        }

        private int lateWith(Orders orders, int set, int left, int next) {
            int end = work[set] - work[left] + orders.hours[next];
            return orders.lateness(next, end) + leastLast[left ^ (1 << next)];
        }
    }
}
