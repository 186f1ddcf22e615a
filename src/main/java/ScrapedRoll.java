/**
 * A parliament's roll whose erasures count: layers are written over one another in the cells of a
 * skin and rubbed out again, and what was rubbed out is law till what was put over it has stood as
 * long. README.md tells how to use it.
 */
public final class ScrapedRoll {
    public static final int NONE = -1, BAD = -2, NO = -3, FULL = -4;

    private static final int CELLS = 6, DEEPEST = 4, SLOTS = CELLS * DEEPEST;
    private static final int THINGS = 5;
    private static final int DRAFT = 1, DOODLE = 2, CORRECTED = 3, OLD = 4, MARGIN = 5, KINDS = 6;
    private static final int LAST_YEAR = 999, MOST_YEARS = 99;
    private static final int QUARREL = 3;
    private static final int MOST_STEPS = 6, MOST_SEEN = 6, MOST_BYTES = 150;
    private static final int IMAGES = 2, REASONS = 3;
    private static final int MOST_STROKES = 2, MOST_TURNS = 3;
    private static final int MOST_SEED = 999999, MOST_CENTURIES = 30;
    private static final int COUNTS = 7;

    /** Behind every year that a call can ask for. */
    private static final int NEVER = 1000000;

    /** Strokes: the cell's number rubs it, WRITING and the cell's number writes over it. */
    private static final int WRITING = 10, IDLE = 20;

    /** Steps to undo: strokes, or YEARS_PASSED and the year that it was. */
    private static final int YEARS_PASSED = 100;

    /** What calls answer as BAD whose every small number has a meaning of its own. */
    private static final int LOW_BAD = -10;

    private final Roll now = new Roll();
    private final Roll[] images = new Roll[IMAGES];
    private final Skin draft = new Skin();
    private final Trial trial = new Trial();
    private final Text text = new Text();
    private final int[] refusals = new int[REASONS];
    private long above = 0;
    private long below = 1;

    public ScrapedRoll() {
    }

    // ---- a roll

    public int roll() {
        int had = now.skin.layersInAll();
        now.wipe();
        return had;
    }

    public int write(int c, int kind, int thing, int lets) {
        if (!isCell(c) || !within(kind, 0, KINDS - 1) || !isThing(thing) || !within(lets, 0, 1)) {
            return refuse(BAD);
        }
        if (now.skin.canScrape(c)) {
            return refuse(NO);
        }
        if (!now.skin.canCover(c)) {
            return refuse(FULL);
        }
        now.steps.add(WRITING + c);
        return now.skin.cover(c, kind, thing, lets);
    }

    public int rub(int c) {
        if (!isCell(c)) {
            return refuse(BAD);
        }
        if (!now.skin.canScrape(c)) {
            return refuse(NO);
        }
        now.steps.add(c);
        return now.skin.scrape(c);
    }

    public int years(int n) {
        if (!within(n, 1, MOST_YEARS)) {
            return refuse(BAD);
        }
        now.steps.add(YEARS_PASSED + now.skin.year);
        now.skin.pass(n);
        return now.skin.year;
    }

    public int undo() {
        int step = now.steps.takeLast();
        if (step == NONE) {
            return refuse(NO);
        }
        if (step >= YEARS_PASSED) {
            now.skin.year = step - YEARS_PASSED;
        } else {
            now.skin.takeBack(step);
        }
        return now.skin.year;
    }

    public int type(int c) {
        if (!within(c, 0, 127)) {
            return refuse(BAD);
        }
        if (text.size >= MOST_BYTES) {
            return refuse(FULL);
        }
        return text.add(c);
    }

    public int clear() {
        return text.empty();
    }

    public int read() {
        int items = Reader.rollInto(text, draft);
        if (items == NONE) {
            return LOW_BAD - text.start;
        }
        now.wipe();
        now.skin.take(draft);
        return items;
    }

    public int layers(int c) {
        return isCell(c) ? now.skin.height[c] : refuse(BAD);
    }

    public int of(int c, int i, int what) {
        int s = now.skin.slot(c, i);
        if (s == NONE || !within(what, 0, 4)) {
            refuse(BAD);
            return LOW_BAD;
        }
        return now.skin.field(s, what);
    }

    // ---- the law

    public int binds(int c, int i, int y) {
        if (!now.skin.has(c, i) || !isYear(y)) {
            return refuse(BAD);
        }
        return now.skin.bound(c, i, y) ? 1 : 0;
    }

    public int rule(int thing, int y) {
        return isThing(thing) && isYear(y) ? now.skin.law(thing, y) : refuse(BAD);
    }

    public int ends(int c, int i) {
        return now.skin.has(c, i) ? now.skin.lastEnd(c, i) : refuse(BAD);
    }

    public int quarrel(int thing) {
        return isThing(thing) ? now.skin.firstQuarrel(thing) : refuse(BAD);
    }

    public int tear(int y, int c) {
        if (!isYear(y) || (c != NONE && !isCell(c))) {
            refuse(BAD);
            return LOW_BAD;
        }
        return c == NONE ? now.skin.tornInAll(y) : now.skin.tornOf(c, y);
    }

    public int hangs(int c, int i, int y) {
        if (!now.skin.has(c, i) || !isYear(y)) {
            return refuse(BAD);
        }
        return now.skin.hangingOn(c, i, y);
    }

    public int strokes(int thing, int v, int y, int what) {
        if (!isThing(thing) || !within(v, 1, 2) || !within(y, 0, MOST_YEARS) || !within(what, 0, 1)) {
            return refuse(BAD);
        }
        trial.begin(now.skin, thing, now.skin.year + y);
        if (trial.law() == v) {
            return what == 0 ? 0 : NONE;
        }
        for (int n = 1; n <= MOST_STROKES; n++) {
            int first = trial.firstOfRow(v, n);
            if (first != NONE) {
                return what == 0 ? n : first;
            }
        }
        return NONE;
    }

    public int parties(int thing, int y, int n, int what) {
        if (!isThing(thing) || !within(y, 0, MOST_YEARS) || !within(n, 1, MOST_TURNS) || !within(what, 0, 1)) {
            return refuse(BAD);
        }
        trial.begin(now.skin, thing, now.skin.year + y);
        int got = trial.worth(n, 1);
        return what == 0 ? got : trial.first;
    }

    // ---- the lamp

    public int seen(int c, int i, int y, int bound) {
        if (!now.skin.has(c, i) || !isYear(y) || !within(bound, 0, 1)) {
            return refuse(BAD);
        }
        if (now.lamp.size >= MOST_SEEN) {
            return refuse(FULL);
        }
        return now.lamp.add(c, i, y, bound);
    }

    public int forget() {
        return now.lamp.empty();
    }

    public int is(int c, int i) {
        return now.skin.has(c, i) ? now.lamp.fitting(now.skin, c, i) : refuse(BAD);
    }

    public int look(int c, int i) {
        if (!now.skin.has(c, i)) {
            return refuse(BAD);
        }
        int kinds = now.lamp.fitting(now.skin, c, i);
        return kinds == 0 ? NONE : now.skin.tellingYear(kinds, c, i);
    }

    public int thumbs(int thing, int y, int v, int c) {
        if (!isThing(thing) || !isYear(y) || !within(v, 0, 3) || !within(c, 0, 4)) {
            return refuse(BAD);
        }
        int letting = now.skin.tally(thing, 1, y);
        int forbidding = now.skin.tally(thing, 0, y);
        long over = sideWays(c, letting, (v & 1) != 0) * sideWays(c, forbidding, (v & 2) != 0);
        keepFraction(over, power(4, letting + forbidding));
        return 1;
    }

    public int centuries(int seed, int n) {
        if (!within(seed, 0, MOST_SEED) || !within(n, 0, MOST_CENTURIES)) {
            return refuse(BAD);
        }
        draft.take(now.skin);
        long x = seed;
        for (int k = 0; k < n; k++) {
            x = (x * 1103515245L + 12345L) % 2147483648L;
            draft.chance((int) (x / 65536L));
            draft.pass((int) (x / 1048576L % 50L));
        }
        return draft.quarrelsIn(draft.year);
    }

    // ---- what there is

    public long part(int what) {
        if (!within(what, 0, 1)) {
            return refuse(BAD);
        }
        return what == 0 ? above : below;
    }

    public int image(int i) {
        if (!isImage(i)) {
            return refuse(BAD);
        }
        Roll kept = images[i];
        if (kept == null) {
            kept = new Roll();
            images[i] = kept;
        }
        kept.take(now);
        return 1;
    }

    public int from(int i) {
        if (!isImage(i)) {
            return refuse(BAD);
        }
        Roll kept = images[i];
        if (kept == null) {
            return refuse(NO);
        }
        now.take(kept);
        return 1;
    }

    public int status(int what) {
        if (!within(what, 0, REASONS - 1)) {
            refuse(BAD);
            return NONE;
        }
        return refusals[what];
    }

    public int count(int what) {
        switch (what) {
            case 0: return now.skin.layersInAll();
            case 1: return now.skin.year;
            case 2: return now.skin.boundIn(now.skin.year);
            case 3: return now.skin.quarrelsIn(now.skin.year);
            case 4: return now.lamp.size;
            case 5: return now.steps.size;
            case 6: return text.size;
            default: return refuse(BAD);
        }
    }

    public long digest() {
        long h = 1163;
        for (int what = 0; what < COUNTS; what++) {
            h = mix(h, count(what));
        }
        h = now.skin.mixed(h);
        h = now.lamp.mixed(h);
        return mix(mix(h, above), below);
    }

    // ---- what the calls share

    private int refuse(int reason) {
        int at = BAD - reason;
        if (within(at, 0, REASONS - 1)) {
            refusals[at]++;
        }
        return reason;
    }

    private static boolean within(int n, int least, int most) {
        return n >= least && n <= most;
    }

    private static boolean isCell(int c) {
        return c >= 0 && c < CELLS;
    }

    private static int cellOf(int stroke) {
        return stroke < WRITING ? stroke : stroke - WRITING;
    }

    private static boolean isThing(int thing) {
        return thing >= 0 && thing < THINGS;
    }

    private static boolean isYear(int y) {
        return y >= 0 && y <= LAST_YEAR;
    }

    private static boolean isImage(int i) {
        return i >= 0 && i < IMAGES;
    }

    private static long mix(long h, long v) {
        return 31 * h + v;
    }

    /** Of 4 to the n ways in which n layers stay or go: those that leave some layer, or none. */
    private static long sideWays(int gone, int n, boolean some) {
        long none = power(gone, n);
        return some ? power(4, n) - none : none;
    }

    /** At most 4 to the 24th, which a long holds. */
    private static long power(int base, int n) {
        long p = 1;
        for (int k = 0; k < n; k++) {
            p *= base;
        }
        return p;
    }

    private void keepFraction(long over, long under) {
        long a = under;
        long b = over;
        for (int k = 0; k < 100 && b != 0; k++) {
            long left = a % b;
            a = b;
            b = left;
        }
        if (a > 0) {
            above = over / a;
            below = under / a;
        }
    }

    /** All that an image keeps: the skin, what may be undone, what was seen. */
    private static final class Roll {
        private final Skin skin = new Skin();
        private final Steps steps = new Steps();
        private final Lamp lamp = new Lamp();

        private void wipe() {
            skin.wipe();
            steps.size = 0;
            lamp.size = 0;
        }

        private void take(Roll other) {
            skin.take(other.skin);
            steps.take(other.steps);
            lamp.take(other.lamp);
        }
    }

    /** The cells with their layers, and the year. A layer's numbers stand at its slot. */
    private static final class Skin {
        private final int[] height = new int[CELLS];
        private final int[] kind = new int[SLOTS];
        private final int[] thing = new int[SLOTS];
        private final int[] lets = new int[SLOTS];
        private final int[] written = new int[SLOTS];
        private final int[] rubbed = new int[SLOTS];
        private int year = 0;

        private void wipe() {
            year = 0;
            for (int c = 0; c < CELLS; c++) {
                height[c] = 0;
            }
        }

        private void take(Skin other) {
            year = other.year;
            System.arraycopy(other.height, 0, height, 0, CELLS);
            System.arraycopy(other.kind, 0, kind, 0, SLOTS);
            System.arraycopy(other.thing, 0, thing, 0, SLOTS);
            System.arraycopy(other.lets, 0, lets, 0, SLOTS);
            System.arraycopy(other.written, 0, written, 0, SLOTS);
            System.arraycopy(other.rubbed, 0, rubbed, 0, SLOTS);
        }

        /** NONE if there is no such layer. */
        private int slot(int c, int i) {
            if (c < 0 || c >= CELLS || i < 0 || i >= DEEPEST || i >= height[c]) {
                return NONE;
            }
            return c * DEEPEST + i;
        }

        private boolean has(int c, int i) {
            return slot(c, i) != NONE;
        }

        private int topmost(int c) {
            return isCell(c) ? slot(c, height[c] - 1) : NONE;
        }

        private boolean canScrape(int c) {
            int s = topmost(c);
            return s != NONE && rubbed[s] == NONE;
        }

        private boolean canCover(int c) {
            int s = topmost(c);
            return isCell(c) && height[c] < DEEPEST && (s == NONE || rubbed[s] != NONE);
        }

        /** Writes over a cell: the new layer's number in it, NONE if there is no place for one. */
        private int cover(int c, int ofKind, int ofThing, int letting) {
            int i = isCell(c) ? height[c] : NONE;
            if (i < 0 || i >= DEEPEST) {
                return NONE;
            }
            height[c] = i + 1;
            int s = c * DEEPEST + i;
            kind[s] = ofKind;
            thing[s] = ofThing;
            lets[s] = letting;
            written[s] = year;
            rubbed[s] = NONE;
            return i;
        }

        /** Rubs the topmost layer of a cell: how long it stood, NONE if that can not be. */
        private int scrape(int c) {
            int s = topmost(c);
            if (s == NONE || rubbed[s] != NONE) {
                return NONE;
            }
            rubbed[s] = year;
            return year - written[s];
        }

        private void pass(int n) {
            year = Math.min(LAST_YEAR, year + n);
        }

        private boolean canDo(int stroke) {
            return stroke < WRITING ? canScrape(stroke) : canCover(stroke - WRITING);
        }

        private void act(int stroke, int ofThing, int letting) {
            if (stroke < WRITING) {
                scrape(stroke);
            } else {
                cover(stroke - WRITING, 0, ofThing, letting);
            }
        }

        /** Undoes a stroke that was the last one done to its cell. */
        private void takeBack(int stroke) {
            int c = cellOf(stroke);
            int s = topmost(c);
            if (s == NONE) {
                return;
            }
            if (stroke < WRITING) {
                rubbed[s] = NONE;
            } else {
                height[c]--;
            }
        }

        /** One turn of the centuries: rubs, else writes, whichever the number drawn allows. */
        private void chance(int drawn) {
            int c = drawn % CELLS;
            if (canScrape(c)) {
                scrape(c);
            } else {
                int ofKind = drawn % 7;
                cover(c, ofKind == 6 ? 0 : ofKind, drawn % THINGS, drawn % 2);
            }
        }

        private int field(int s, int what) {
            if (s < 0 || s >= SLOTS) {
                return NONE;
            }
            switch (what) {
                case 0: return kind[s];
                case 1: return thing[s];
                case 2: return lets[s];
                case 3: return written[s];
                default: return rubbed[s];
            }
        }

        private int layersInAll() {
            int sum = 0;
            for (int c = 0; c < CELLS; c++) {
                sum += height[c];
            }
            return sum;
        }

        // Every kind binds in one run of years, from the year in which it opens till the one in
        // which it shuts: the years for which the layer over it stood never become fewer.

        /** NEVER if a layer of such a kind does not bind at all (drafts that are not rubbed). */
        private int opens(int asKind, int s) {
            if (s < 0 || s >= SLOTS) {
                return NEVER;
            }
            if (asKind == DRAFT || asKind == MARGIN) {
                return rubbed[s] == NONE ? NEVER : rubbed[s];
            }
            return written[s];
        }

        /** NEVER if it binds for ever; over is the slot of the layer over it, NONE if none is. */
        private int shuts(int asKind, int s, int over) {
            if (s < 0 || s >= SLOTS || over >= SLOTS || rubbed[s] == NONE) {
                return NEVER;
            }
            if (asKind == CORRECTED) {
                return rubbed[s];
            }
            if (over < 0) {
                return NEVER;
            }
            int outstood = written[over] + weight(asKind, rubbed[s] - written[s]);
            boolean neverStoodSoLong = rubbed[over] != NONE && rubbed[over] < outstood;
            return neverStoodSoLong ? NEVER : outstood;
        }

        /** The years that count for a layer that stood so long. */
        private static int weight(int asKind, int stood) {
            switch (asKind) {
                case DOODLE: return stood / 2;
                case OLD: return stood * 2;
                case MARGIN: return stood + 3;
                default: return stood;
            }
        }

        private boolean wouldBind(int asKind, int c, int i, int y) {
            int s = slot(c, i);
            return opens(asKind, s) <= y && y < shuts(asKind, s, slot(c, i + 1));
        }

        private boolean bound(int c, int i, int y) {
            int s = slot(c, i);
            return s != NONE && wouldBind(kind[s], c, i, y);
        }

        private int lastEnd(int c, int i) {
            int s = slot(c, i);
            if (s == NONE) {
                return NONE;
            }
            if (bound(c, i, LAST_YEAR)) {
                return NONE;
            }
            int open = opens(kind[s], s);
            return open == NEVER ? year : Math.max(year, shuts(kind[s], s, slot(c, i + 1)));
        }

        /** What the layers of one cell alone say of a thing: 1 lets, 2 forbids, both added. */
        private int lawOfCell(int c, int ofThing, int y) {
            int law = 0;
            for (int i = 0; i < DEEPEST; i++) {
                int s = slot(c, i);
                if (s != NONE && thing[s] == ofThing && wouldBind(kind[s], c, i, y)) {
                    law |= lets[s] == 1 ? 1 : 2;
                }
            }
            return law;
        }

        private int law(int ofThing, int y) {
            int law = 0;
            for (int c = 0; c < CELLS; c++) {
                law |= lawOfCell(c, ofThing, y);
            }
            return law;
        }

        /** How many layers that bind let a thing (letting 1), or forbid it (0). */
        private int tally(int ofThing, int letting, int y) {
            int sum = 0;
            for (int c = 0; c < CELLS; c++) {
                for (int i = 0; i < DEEPEST; i++) {
                    int s = slot(c, i);
                    if (s != NONE && thing[s] == ofThing && lets[s] == letting && wouldBind(kind[s], c, i, y)) {
                        sum++;
                    }
                }
            }
            return sum;
        }

        private int boundIn(int y) {
            int sum = 0;
            for (int c = 0; c < CELLS; c++) {
                for (int i = 0; i < DEEPEST; i++) {
                    if (bound(c, i, y)) {
                        sum++;
                    }
                }
            }
            return sum;
        }

        private int quarrelsIn(int y) {
            int sum = 0;
            for (int t = 0; t < THINGS; t++) {
                if (law(t, y) == QUARREL) {
                    sum++;
                }
            }
            return sum;
        }

        /** A quarrel can only begin in a year in which some layer of the thing opens. */
        private int firstQuarrel(int ofThing) {
            int first = NEVER;
            for (int c = 0; c < CELLS; c++) {
                for (int i = 0; i < DEEPEST; i++) {
                    int s = slot(c, i);
                    if (s == NONE || thing[s] != ofThing) {
                        continue;
                    }
                    int y = opens(kind[s], s);
                    if (y < first && law(ofThing, y) == QUARREL) {
                        first = y;
                    }
                }
            }
            return first == NEVER ? NONE : first;
        }

        /** Which side of a quarrel is torn: 1 those that let, 0 those that forbid, NONE no quarrel. */
        private int tornSide(int ofThing, int y) {
            int letting = tally(ofThing, 1, y);
            int forbidding = tally(ofThing, 0, y);
            if (letting == 0 || forbidding == 0) {
                return NONE;
            }
            return letting <= forbidding ? 1 : 0;
        }

        private int tornInAll(int y) {
            int sum = 0;
            for (int t = 0; t < THINGS; t++) {
                sum += Math.min(tally(t, 0, y), tally(t, 1, y));
            }
            return sum;
        }

        private int tornOf(int c, int y) {
            int bits = 0;
            for (int i = 0; i < DEEPEST; i++) {
                int s = slot(c, i);
                if (s != NONE && bound(c, i, y) && tornSide(thing[s], y) == lets[s]) {
                    bits |= 1 << i;
                }
            }
            return bits;
        }

        /** The law hangs on a layer that binds and is alone in what it says of its thing. */
        private int hangingOn(int c, int i, int y) {
            int s = slot(c, i);
            if (s == NONE || !bound(c, i, y)) {
                return 0;
            }
            return tally(thing[s], lets[s], y) == 1 ? 1 << thing[s] : 0;
        }

        /** The year to come that tells most of these kinds (bits) apart. */
        private int tellingYear(int kinds, int c, int i) {
            int all = Integer.bitCount(kinds);
            int least = KINDS + 1;
            int best = NONE;
            for (int y = year; y <= year + MOST_YEARS && y <= LAST_YEAR; y++) {
                int binding = 0;
                for (int k = 0; k < KINDS; k++) {
                    if ((kinds >> k & 1) == 1 && wouldBind(k, c, i, y)) {
                        binding++;
                    }
                }
                int greater = Math.max(binding, all - binding);
                if (greater < least) {
                    least = greater;
                    best = y;
                }
            }
            return best;
        }

        private long mixed(long begun) {
            long h = begun;
            for (int c = 0; c < CELLS; c++) {
                h = mix(h, height[c]);
                for (int i = 0; i < DEEPEST; i++) {
                    int s = slot(c, i);
                    for (int what = 0; s != NONE && what <= 4; what++) {
                        h = mix(h, field(s, what));
                    }
                }
            }
            return h;
        }
    }

    /** The last steps that may be undone. */
    private static final class Steps {
        private final int[] steps = new int[MOST_STEPS];
        private int size = 0;

        private void take(Steps other) {
            size = other.size;
            System.arraycopy(other.steps, 0, steps, 0, MOST_STEPS);
        }

        /** The oldest one is lost if there are too many. */
        private void add(int step) {
            if (size >= MOST_STEPS) {
                System.arraycopy(steps, 1, steps, 0, MOST_STEPS - 1);
                size = MOST_STEPS - 1;
            }
            if (size >= 0) {
                steps[size] = step;
                size++;
            }
        }

        private int takeLast() {
            if (size <= 0 || size > MOST_STEPS) {
                return NONE;
            }
            size--;
            return steps[size];
        }
    }

    /** What the lamp showed, as it came. */
    private static final class Lamp {
        private final int[] cell = new int[MOST_SEEN];
        private final int[] layer = new int[MOST_SEEN];
        private final int[] year = new int[MOST_SEEN];
        private final int[] bound = new int[MOST_SEEN];
        private int size = 0;

        private void take(Lamp other) {
            size = other.size;
            System.arraycopy(other.cell, 0, cell, 0, MOST_SEEN);
            System.arraycopy(other.layer, 0, layer, 0, MOST_SEEN);
            System.arraycopy(other.year, 0, year, 0, MOST_SEEN);
            System.arraycopy(other.bound, 0, bound, 0, MOST_SEEN);
        }

        private int add(int c, int i, int y, int didBind) {
            if (size >= 0 && size < MOST_SEEN) {
                cell[size] = c;
                layer[size] = i;
                year[size] = y;
                bound[size] = didBind;
                size++;
            }
            return size;
        }

        private int empty() {
            int had = size;
            size = 0;
            return had;
        }

        /** The kinds (bits) that a layer can be of, by all that was seen of it. */
        private int fitting(Skin skin, int c, int i) {
            int kinds = 0;
            for (int k = 0; k < KINDS; k++) {
                if (fits(skin, k, c, i)) {
                    kinds |= 1 << k;
                }
            }
            return kinds;
        }

        private boolean fits(Skin skin, int asKind, int c, int i) {
            for (int n = 0; n < size && n < MOST_SEEN; n++) {
                boolean ofIt = cell[n] == c && layer[n] == i;
                if (ofIt && skin.wouldBind(asKind, c, i, year[n]) != (bound[n] == 1)) {
                    return false;
                }
            }
            return true;
        }

        private long mixed(long begun) {
            long h = begun;
            for (int n = 0; n < size && n < MOST_SEEN; n++) {
                h = mix(mix(mix(mix(h, cell[n]), layer[n]), year[n]), bound[n]);
            }
            return h;
        }
    }

    /** Strokes tried out on a copy of the skin, for one thing and one year. */
    private static final class Trial {
        private final Skin skin = new Skin();
        private final int[] cellLaws = new int[CELLS];
        private int thing = 0;
        private int year = 0;
        private int first = IDLE;

        private void begin(Skin real, int ofThing, int inYear) {
            skin.take(real);
            thing = ofThing;
            year = inYear;
            for (int c = 0; c < CELLS; c++) {
                cellLaws[c] = skin.lawOfCell(c, thing, year);
            }
        }

        private int law() {
            int law = 0;
            for (int c = 0; c < CELLS; c++) {
                law |= cellLaws[c];
            }
            return law;
        }

        private boolean canDo(int stroke) {
            return stroke == IDLE || skin.canDo(stroke);
        }

        /** A stroke changes what one cell says, and no other; the idle one is of no cell. */
        private void act(int stroke, int letting) {
            int c = cellOf(stroke);
            if (isCell(c)) {
                skin.act(stroke, thing, letting);
                cellLaws[c] = skin.lawOfCell(c, thing, year);
            }
        }

        private void takeBack(int stroke) {
            int c = cellOf(stroke);
            if (isCell(c)) {
                skin.takeBack(stroke);
                cellLaws[c] = skin.lawOfCell(c, thing, year);
            }
        }

        /** The first stroke of the first row of n strokes that makes the law so, NONE if none does. */
        private int firstOfRow(int law, int n) {
            if (n < 1 || n > MOST_STROKES) {
                return NONE;
            }
            for (int stroke = 0; stroke < IDLE; stroke++) {
                if (!skin.canDo(stroke)) {
                    continue;
                }
                act(stroke, law == 1 ? 1 : 0);
                boolean made = n == 1 ? law() == law : firstOfRow(law, n - 1) != NONE;
                takeBack(stroke);
                if (made) {
                    return stroke;
                }
            }
            return NONE;
        }

        /** What a gets by n turns more; letting is 1 if it is a's turn, 0 if it is b's. */
        private int worth(int n, int letting) {
            if (n < 1 || n > MOST_TURNS) {
                return worthOfLaw();
            }
            int goal = letting == 1 ? 2 : 0;
            int best = letting == 1 ? -1 : 3;
            int chosen = IDLE;
            for (int stroke = 0; stroke <= IDLE && best != goal; stroke++) {
                if (!canDo(stroke)) {
                    continue;
                }
                act(stroke, letting);
                int got = worth(n - 1, 1 - letting);
                takeBack(stroke);
                if (letting == 1 ? got > best : got < best) {
                    best = got;
                    chosen = stroke;
                }
            }
            // The outermost turn comes here last, so that its choice is the one that stays.
            first = chosen;
            return best;
        }

        private int worthOfLaw() {
            switch (law()) {
                case 1: return 2;
                case 2: return 0;
                default: return 1;
            }
        }
    }

    /** The text's bytes, and the token of it that was cut last. */
    private static final class Text {
        private static final int END = 0, ODD = 1, STOP = 2, NUMBER = 3, WORD = 4;
        private static final int BLANK = 32, MOST_FIGURES = 2;

        private final byte[] bytes = new byte[MOST_BYTES];
        private int size = 0;
        private int next = 0;
        private int start = 0;
        private int token = END;
        private int number = 0;

        private int add(int b) {
            if (size >= 0 && size < MOST_BYTES) {
                bytes[size] = (byte) b;
                size++;
            }
            return size;
        }

        private int empty() {
            int had = size;
            size = 0;
            return had;
        }

        /** NONE behind the last byte. */
        private int peek() {
            return next >= 0 && next < size && next < MOST_BYTES ? bytes[next] : NONE;
        }

        private void cutFirst() {
            next = 0;
            cutNext();
        }

        /** The token that is cut begins at start, which is the text's length at the end. */
        private void cutNext() {
            while (next < size && peek() == BLANK) {
                next++;
            }
            start = next;
            int b = peek();
            if (isLetter(b)) {
                cutWord();
            } else if (isFigure(b)) {
                cutNumber();
            } else if (b == NONE) {
                token = END;
            } else {
                token = b == ';' ? STOP : ODD;
                next++;
            }
        }

        private void cutWord() {
            while (next < size && isLetter(peek())) {
                next++;
            }
            token = WORD;
        }

        /** A run with a third figure is no number, whatever it would be worth. */
        private void cutNumber() {
            number = 0;
            while (next < size && isFigure(peek())) {
                if (next - start < MOST_FIGURES) {
                    number = number * 10 + peek() - '0';
                }
                next++;
            }
            token = next - start <= MOST_FIGURES ? NUMBER : ODD;
        }

        /** Whether the token is this word. */
        private boolean spells(String word) {
            if (token != WORD || next - start != word.length() || start < 0 || next > MOST_BYTES) {
                return false;
            }
            for (int k = 0; k < word.length(); k++) {
                if (bytes[start + k] != word.charAt(k)) {
                    return false;
                }
            }
            return true;
        }

        private static boolean isLetter(int b) {
            return b >= 'a' && b <= 'z';
        }

        private static boolean isFigure(int b) {
            return b >= '0' && b <= '9';
        }
    }

    /** Reads a roll. Where it stops early, the text's start is the fault. */
    private static final class Reader {

        /** How many items were read onto the skin, NONE if there is a fault. */
        private static int rollInto(Text text, Skin skin) {
            skin.wipe();
            text.cutFirst();
            if (!text.spells("roll") || !stops(text)) {
                return NONE;
            }
            text.cutNext();
            int items = 1;
            while (items <= MOST_BYTES && text.token != Text.END) {
                if (!itemOnto(text, skin) || !stops(text)) {
                    return NONE;
                }
                items++;
                text.cutNext();
            }
            return items;
        }

        private static boolean stops(Text text) {
            text.cutNext();
            return text.token == Text.STOP;
        }

        private static boolean itemOnto(Text text, Skin skin) {
            if (text.spells("write")) {
                return writeOnto(text, skin);
            }
            if (text.spells("rub")) {
                return rubOnto(text, skin);
            }
            return text.spells("years") && yearsOnto(text, skin);
        }

        /** A cell is looked at as soon as it is named: a fault in it comes ahead of those behind. */
        private static boolean writeOnto(Text text, Skin skin) {
            if (!numberIs(text, 0, CELLS - 1) || !skin.canCover(text.number)) {
                return false;
            }
            int c = text.number;
            if (!numberIs(text, 0, KINDS - 1)) {
                return false;
            }
            int kind = text.number;
            if (!numberIs(text, 0, THINGS - 1)) {
                return false;
            }
            int thing = text.number;
            if (!numberIs(text, 0, 1)) {
                return false;
            }
            skin.cover(c, kind, thing, text.number);
            return true;
        }

        private static boolean rubOnto(Text text, Skin skin) {
            if (!numberIs(text, 0, CELLS - 1) || !skin.canScrape(text.number)) {
                return false;
            }
            skin.scrape(text.number);
            return true;
        }

        private static boolean yearsOnto(Text text, Skin skin) {
            if (!numberIs(text, 1, MOST_YEARS)) {
                return false;
            }
            skin.pass(text.number);
            return true;
        }

        private static boolean numberIs(Text text, int least, int most) {
            text.cutNext();
            return text.token == Text.NUMBER && within(text.number, least, most);
        }
    }
}
