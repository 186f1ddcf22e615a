import java.math.BigInteger;
import java.util.ArrayList;
import java.util.List;

/**
 * The document read again from its beginning: each sentence that names an edge (too small, too
 * large, empty, full, at once, just then) has a test of its own here, which begins with its words.
 * What must be refused for its numbers alone is in BoundsTest, what can stand in a text in ReadTest.
 */
public final class EdgeTest {
    private static final int NONE = -1, BAD = -2, NO = -3, FULL = -4;
    private static final int PLAIN = 0, DRAFT = 1, DOODLE = 2, CORRECTED = 3, OLD = 4, MARGIN = 5;
    private static final int PROMISES = 31;
    private static final int[] askedOf = new int[PROMISES + 1];
    private static int wrong = 0;
    private static String sentence = "";

    public static void main(String[] args) {
        terms();
        kinds();
        theOneOver();
        lawsOfYears();
        aRoll();
        undoing();
        endsOfLayers();
        firstQuarrels();
        tearing();
        hanging();
        strokesOfOne();
        parties();
        lamp();
        looking();
        thumbs();
        centuries();
        images();
        statusAndCounts();
        digests();
        everyPromiseIsAsked();
        if (wrong != 0) {
            System.exit(1);
        }
    }

    private static void says(String words) {
        sentence = words;
    }

    private static void due(int promise, long got, long want) {
        askedOf[promise]++;
        if (got != want) {
            wrong++;
            StackTraceElement at = new Throwable().getStackTrace()[1];
            System.out.println("promise " + promise + ", \"" + sentence + "\", line " + at.getLineNumber()
                + ": answered " + got + ", due is " + want);
        }
    }

    private static void everyPromiseIsAsked() {
        int all = 0;
        for (int promise = 1; promise <= PROMISES; promise++) {
            all += askedOf[promise];
            // what is read has a test of its own
            if (askedOf[promise] == 0 && promise != 9) {
                wrong++;
                System.out.println("promise " + promise + " is not asked for");
            }
        }
        System.out.println(all + " asked, " + wrong + " not as due");
    }

    /** An object in which that many years went by. */
    private static ScrapedRoll inYear(int year) {
        ScrapedRoll x = new ScrapedRoll();
        pass(x, year);
        return x;
    }

    private static void pass(ScrapedRoll x, int years) {
        for (int left = years; left > 0; left -= 99) {
            x.years(Math.min(99, left));
        }
    }

    /** A cell with a layer that stood for some years from now, and one over it for some years, a gap between. */
    private static void pair(ScrapedRoll x, int c, int[] kinds, int stood, int gap, int over) {
        x.write(c, kinds[0], 0, 1);
        pass(x, stood);
        x.rub(c);
        pass(x, gap);
        x.write(c, kinds[1], 4, 1);
        pass(x, over);
        x.rub(c);
    }

    /** The layer binds from one year on till the other, that one not taken, and in no other year. */
    private static void dueRun(ScrapedRoll x, int c, int i, int from, int till) {
        for (int y = 0; y <= 999; y++) {
            due(12, x.binds(c, i, y), y >= from && y < till ? 1 : 0);
        }
    }

    // ---- the terms

    private static void terms() {
        says("CELLS 0 .. 5, each with up to 4 LAYERS, one over the other (0 the lowest)");
        ScrapedRoll x = new ScrapedRoll();
        for (int i = 0; i < 4; i++) {
            for (int c = 0; c < 6; c++) {
                due(3, x.write(c, (c + i) % 6, (c + i) % 5, i % 2), i);
                due(10, x.layers(c), i + 1);
                due(4, x.rub(c), 0);
            }
        }
        for (int c = 0; c < 6; c++) {
            due(3, x.write(c, 0, 0, 0), FULL);
            due(10, x.layers(c), 4);
            due(11, x.of(c, 0, 0), c);
            due(11, x.of(c, 3, 0), (c + 3) % 6);
            due(11, x.of(c, 3, 1), (c + 3) % 5);
            due(11, x.of(c, 3, 2), 1);
            due(11, x.of(c, 4, 0), -10);
        }
        due(30, x.count(0), 24);
        due(2, x.roll(), 24);
        due(2, x.roll(), 0);

        says("the YEAR in which it was WRITTEN, that in which it was RUBBED out (none at first)");
        ScrapedRoll y = new ScrapedRoll();
        y.write(0, 0, 0, 0);
        due(11, y.of(0, 0, 3), 0);
        due(11, y.of(0, 0, 4), NONE);
        y.rub(0);
        due(11, y.of(0, 0, 4), 0);
        pass(y, 999);
        y.write(0, 0, 0, 0);
        due(11, y.of(0, 1, 3), 999);
        due(11, y.of(0, 1, 4), NONE);
        y.rub(0);
        due(11, y.of(0, 1, 4), 999);

        says("WRITING over a CELL, if its topmost LAYER is RUBBED, or there is none");
        ScrapedRoll z = new ScrapedRoll();
        due(3, z.write(5, 0, 0, 0), 0);
        due(3, z.write(5, 0, 0, 0), NO);
        due(4, z.rub(5), 0);
        due(3, z.write(5, 0, 0, 0), 1);
        due(3, z.write(5, 0, 0, 0), NO);

        says("RUBBING the topmost one, if it is not RUBBED");
        pass(z, 3);
        due(4, z.rub(5), 3);
        due(11, z.of(5, 0, 4), 0);
        due(11, z.of(5, 1, 4), 3);
        pass(z, 3);
        due(4, z.rub(5), NO);
        due(11, z.of(5, 1, 4), 3);
        due(4, z.rub(4), NO);

        says("How long a LAYER STOOD: from when it was WRITTEN till it was RUBBED");
        ScrapedRoll all = new ScrapedRoll();
        all.write(0, 0, 0, 0);
        pass(all, 999);
        due(4, all.rub(0), 999);
        all.write(0, 0, 0, 0);
        due(4, all.rub(0), 0);
    }

    // ---- kinds

    private static void kinds() {
        int[] from = {10, 17, 10, 10, 10, 17};
        int[] till = {27, 27, 23, 17, 34, 30};
        says("KINDS, each under the one told: 7 YEARS, put over in the 20th");
        ScrapedRoll x = inYear(10);
        for (int c = 0; c < 6; c++) {
            x.write(c, c, 0, 1);
        }
        pass(x, 7);
        for (int c = 0; c < 6; c++) {
            x.rub(c);
        }
        pass(x, 3);
        for (int c = 0; c < 6; c++) {
            x.write(c, 5 - c, 1, 0);
            dueRun(x, c, 0, from[c], till[c]);
        }

        says("from when it was WRITTEN on (never ahead of it)");
        ScrapedRoll last = inYear(999);
        last.write(0, PLAIN, 0, 1);
        dueRun(last, 0, 0, 999, 1000);
        last.write(1, DRAFT, 0, 1);
        dueRun(last, 1, 0, 1000, 1000);
        last.rub(1);
        dueRun(last, 1, 0, 999, 1000);
        ScrapedRoll first = new ScrapedRoll();
        first.write(0, CORRECTED, 0, 1);
        dueRun(first, 0, 0, 0, 1000);

        says("it is not RUBBED by y (one RUBBED in y is RUBBED by y)");
        int[] stay = {1000, 1000, 1000, 5, 1000, 1000};
        int[] begin = {0, 5, 0, 0, 0, 5};
        for (int k = 0; k < 6; k++) {
            ScrapedRoll r = new ScrapedRoll();
            r.write(0, k, 0, 1);
            pass(r, 5);
            r.rub(0);
            dueRun(r, 0, 0, begin[k], stay[k]);
        }

        says("DRAFT, MARGIN: not while it is not RUBBED");
        for (int k = 0; k < 6; k++) {
            ScrapedRoll r = inYear(4);
            r.write(0, k, 0, 1);
            boolean draft = k == DRAFT || k == MARGIN;
            dueRun(r, 0, 0, draft ? 1000 : 4, 1000);
        }

        says("CORRECTED: not from when it is RUBBED on, though it is so at once");
        ScrapedRoll c = inYear(4);
        c.write(0, CORRECTED, 0, 1);
        c.rub(0);
        dueRun(c, 0, 0, 1000, 1000);
        standsForFewYears();
    }

    /** Layers put over at once: the years that count are seen by the year in which each ends. */
    private static void standsForFewYears() {
        int[][] counts = {
            {0, 1, 2, 3, 4, 5},
            {0, 1, 2, 3, 4, 5},
            {0, 0, 1, 1, 2, 2},
            {0, 0, 0, 0, 0, 0},
            {0, 2, 4, 6, 8, 10},
            {3, 4, 5, 6, 7, 8}};
        String[] words = {"PLAIN: less long than itself did", "DRAFT: as PLAIN", "DOODLE: half as long (cut)",
            "CORRECTED: not from when it is RUBBED on", "OLD: twice as long", "MARGIN: 3 YEARS longer"};
        for (int kind = 0; kind < 6; kind++) {
            says(words[kind]);
            for (int stood = 0; stood < 6; stood++) {
                ScrapedRoll x = inYear(2);
                pair(x, 1, new int[] {kind, PLAIN}, stood, 0, 99);
                boolean draft = kind == DRAFT || kind == MARGIN;
                dueRun(x, 1, 0, draft ? 2 + stood : 2, 2 + stood + counts[kind][stood]);
            }
        }
        says("OLD: twice as long, behind 999");
        ScrapedRoll old = new ScrapedRoll();
        old.write(0, OLD, 0, 1);
        old.write(1, PLAIN, 0, 1);
        pass(old, 499);
        old.rub(0);
        old.rub(1);
        old.write(0, 0, 0, 0);
        old.write(1, 0, 0, 0);
        dueRun(old, 0, 0, 0, 1000);
        dueRun(old, 1, 0, 0, 998);
        due(14, old.ends(0, 0), NONE);
        due(14, old.ends(1, 0), 998);
    }

    private static void theOneOver() {
        says("not at all, if there is none");
        ScrapedRoll none = new ScrapedRoll();
        none.write(0, PLAIN, 0, 1);
        none.rub(0);
        dueRun(none, 0, 0, 0, 1000);

        says("not at all, if .. it is WRITTEN later than y");
        ScrapedRoll later = new ScrapedRoll();
        pair(later, 0, new int[] {PLAIN, PLAIN}, 0, 5, 9);
        dueRun(later, 0, 0, 0, 5);

        says("from when that was WRITTEN till y");
        ScrapedRoll till = new ScrapedRoll();
        pair(till, 0, new int[] {PLAIN, PLAIN}, 3, 7, 9);
        dueRun(till, 0, 0, 0, 13);

        says("or till it was RUBBED, if that was ahead of y");
        int[] over = {0, 1, 2, 3, 4};
        int[] ends = {1000, 1000, 1000, 13, 13};
        for (int k = 0; k < over.length; k++) {
            ScrapedRoll x = new ScrapedRoll();
            pair(x, 0, new int[] {PLAIN, PLAIN}, 3, 7, over[k]);
            dueRun(x, 0, 0, 0, ends[k]);
            // the one that is put over both does not count for the lower
            pass(x, 1);
            x.write(0, PLAIN, 4, 0);
            pass(x, 50);
            dueRun(x, 0, 0, 0, ends[k]);
        }

        says("the one over it STOOD so long, whatever its KIND counts");
        for (int kind = 0; kind < 6; kind++) {
            ScrapedRoll x = new ScrapedRoll();
            pair(x, 0, new int[] {PLAIN, kind}, 6, 0, 6);
            dueRun(x, 0, 0, 0, 12);
            ScrapedRoll less = new ScrapedRoll();
            pair(less, 0, new int[] {PLAIN, kind}, 6, 0, 5);
            dueRun(less, 0, 0, 0, 1000);
        }

        says("By YEAR y (not ahead of when it was RUBBED): a gap of no YEARS, in the last YEAR");
        ScrapedRoll last = inYear(999);
        pair(last, 0, new int[] {PLAIN, PLAIN}, 0, 0, 0);
        dueRun(last, 0, 0, 1000, 1000);
        dueRun(last, 0, 1, 999, 1000);
        ScrapedRoll margin = inYear(999);
        pair(margin, 0, new int[] {MARGIN, PLAIN}, 0, 0, 0);
        dueRun(margin, 0, 0, 999, 1000);
    }

    private static void lawsOfYears() {
        says("THE LAW: 0 nothing, 1 some LETS it, 2 some FORBIDS it, 3 both");
        ScrapedRoll x = inYear(2);
        for (int thing = 0; thing < 5; thing++) {
            due(13, x.rule(thing, 0), 0);
            due(13, x.rule(thing, 999), 0);
        }
        x.write(0, PLAIN, 4, 1);
        x.write(1, PLAIN, 3, 0);
        x.write(2, PLAIN, 0, 1);
        x.write(3, PLAIN, 0, 0);
        x.write(4, DRAFT, 1, 0);
        int[] laws = {3, 0, 0, 2, 1};
        for (int thing = 0; thing < 5; thing++) {
            due(13, x.rule(thing, 1), 0);
            due(13, x.rule(thing, 2), laws[thing]);
            due(13, x.rule(thing, 999), laws[thing]);
        }

        says("two of one CELL, one over the other, QUARREL too");
        ScrapedRoll cell = new ScrapedRoll();
        cell.write(0, PLAIN, 0, 1);
        pass(cell, 2);
        cell.rub(0);
        cell.write(0, PLAIN, 0, 0);
        due(13, cell.rule(0, 1), 1);
        due(13, cell.rule(0, 2), 3);
        due(13, cell.rule(0, 3), 3);
        due(13, cell.rule(0, 4), 2);

        says("Of YEARS to come: as if no more were WRITTEN, RUBBED");
        ScrapedRoll to = new ScrapedRoll();
        to.write(0, CORRECTED, 0, 1);
        due(13, to.rule(0, 5), 1);
        pass(to, 5);
        to.rub(0);
        due(13, to.rule(0, 4), 1);
        due(13, to.rule(0, 5), 0);
        due(12, to.binds(0, 0, 4), 1);
        due(12, to.binds(0, 0, 999), 0);
    }

    // ---- a roll

    private static void aRoll() {
        says("A new object: as told; no LAYERS");
        ScrapedRoll x = new ScrapedRoll();
        for (int what = 0; what <= 6; what++) {
            due(1, x.count(what), 0);
        }
        due(1, x.part(0), 0);
        due(1, x.part(1), 1);
        for (int c = 0; c < 6; c++) {
            due(1, x.layers(c), 0);
            due(1, x.of(c, 0, 0), -10);
        }
        due(1, x.status(0), 6);
        due(1, x.status(1), 0);
        due(1, x.status(2), 0);
        due(1, x.from(0), NO);
        due(1, x.from(1), NO);
        due(1, x.undo(), NO);
        due(1, x.forget(), 0);
        due(1, x.clear(), 0);
        due(1, x.roll(), 0);
        due(1, new ScrapedRoll().read(), -10);

        says("n (1 .. 99) YEARS go by: THE YEAR (999 at most)");
        ScrapedRoll y = new ScrapedRoll();
        due(5, y.years(1), 1);
        due(5, y.years(99), 100);
        pass(y, 890);
        due(5, y.years(8), 998);
        due(5, y.years(1), 999);
        due(5, y.years(1), 999);
        due(5, y.years(99), 999);
        ScrapedRoll over = inYear(990);
        due(5, over.years(9), 999);
        over.undo();
        due(5, over.years(10), 999);
        over.undo();
        due(5, over.years(99), 999);
        due(30, over.count(1), 999);

        says("A byte (0 .. 127) comes behind THE TEXT (150 bytes at most): how many it has");
        ScrapedRoll t = new ScrapedRoll();
        for (int k = 1; k <= 150; k++) {
            due(7, t.type(k % 128), k);
        }
        due(7, t.type(0), FULL);
        due(7, t.type(127), FULL);
        due(30, t.count(6), 150);
        says("THE TEXT is empty: how many it had");
        due(8, t.clear(), 150);
        due(8, t.clear(), 0);
        due(7, t.type(0), 1);
        due(8, t.clear(), 1);
    }

    private static void undoing() {
        says("UNDO (6 at most)");
        ScrapedRoll x = new ScrapedRoll();
        for (int k = 1; k <= 6; k++) {
            x.years(1);
            due(30, x.count(5), k);
        }
        x.years(1);
        due(30, x.count(5), 6);
        for (int k = 6; k >= 1; k--) {
            due(6, x.undo(), k);
            due(30, x.count(5), k - 1);
        }
        due(6, x.undo(), NO);
        due(30, x.count(1), 1);

        says("UNDO, and what is done then takes its place");
        x.years(10);
        x.years(20);
        due(6, x.undo(), 11);
        x.years(30);
        due(6, x.undo(), 11);
        due(6, x.undo(), 1);
        due(6, x.undo(), NO);

        says("all CELLS, THE YEAR as ahead of the last LAYER WRITTEN, RUBBED, YEARS gone by");
        ScrapedRoll y = new ScrapedRoll();
        long empty = y.digest();
        y.write(5, MARGIN, 4, 1);
        y.years(2);
        y.rub(5);
        y.write(5, OLD, 3, 0);
        y.years(3);
        y.rub(5);
        due(6, y.undo(), 5);
        due(11, y.of(5, 1, 4), NONE);
        due(6, y.undo(), 2);
        due(6, y.undo(), 2);
        due(10, y.layers(5), 1);
        due(11, y.of(5, 0, 4), 2);
        due(6, y.undo(), 2);
        due(11, y.of(5, 0, 4), NONE);
        due(6, y.undo(), 0);
        due(10, y.layers(5), 1);
        due(6, y.undo(), 0);
        due(31, y.digest(), empty);

        says("UNDO of the fourth LAYER: there is a place for it again");
        ScrapedRoll four = new ScrapedRoll();
        for (int i = 0; i < 4; i++) {
            four.write(2, 0, 0, 0);
            four.rub(2);
        }
        due(3, four.write(2, 0, 0, 0), FULL);
        due(6, four.undo(), 0);
        due(3, four.write(2, 0, 0, 0), NO);
        due(6, four.undo(), 0);
        due(3, four.write(2, 1, 1, 1), 3);
        due(11, four.of(2, 3, 0), 1);

        says("YEARS that go by in 999 may be undone, too");
        ScrapedRoll last = inYear(990);
        last.years(99);
        last.years(99);
        due(6, last.undo(), 999);
        due(6, last.undo(), 990);

        says("what was refused can not be undone; no question, SEEN, byte, IMAGE can");
        ScrapedRoll r = new ScrapedRoll();
        r.years(4);
        r.years(100);
        r.rub(0);
        r.write(0, 6, 0, 0);
        r.rule(0, 0);
        r.type('x');
        r.image(0);
        r.thumbs(0, 0, 0, 0);
        r.forget();
        due(30, r.count(5), 1);
        due(6, r.undo(), 0);
        due(6, r.undo(), NO);
        due(30, r.count(6), 1);
        due(26, r.part(0), 1);

        says("All as at first: nothing may be undone");
        r.years(4);
        r.roll();
        due(2, r.undo(), NO);
        due(2, r.count(1), 0);
    }

    // ---- the law

    private static void endsOfLayers() {
        says("ENDS: the first YEAR from THE YEAR to 999 in which it does not BIND and does in none behind it");
        ScrapedRoll x = new ScrapedRoll();
        pair(x, 0, new int[] {PLAIN, PLAIN}, 5, 0, 3);
        due(14, x.ends(0, 0), NONE);
        x.undo();
        due(14, x.ends(0, 0), 10);
        pass(x, 1);
        due(14, x.ends(0, 0), 10);
        pass(x, 1);
        due(14, x.ends(0, 0), 10);
        pass(x, 1);
        due(14, x.ends(0, 0), 11);
        pass(x, 988);
        due(14, x.ends(0, 0), 999);

        says("ENDS: (THE YEAR, if it does in none)");
        ScrapedRoll draft = inYear(7);
        draft.write(0, DRAFT, 0, 1);
        due(14, draft.ends(0, 0), 7);
        draft.rub(0);
        due(14, draft.ends(0, 0), NONE);
        draft.write(0, DRAFT, 0, 1);
        due(14, draft.ends(0, 0), 7);
        due(14, draft.ends(0, 1), 7);
        pass(draft, 2);
        due(14, draft.ends(0, 0), 9);
        due(14, draft.ends(0, 1), 9);
        draft.write(1, CORRECTED, 0, 1);
        due(14, draft.ends(1, 0), NONE);
        draft.rub(1);
        due(14, draft.ends(1, 0), 9);

        says("ENDS: none: it BINDS in 999");
        ScrapedRoll end = new ScrapedRoll();
        for (int c = 0; c < 3; c++) {
            end.write(c, PLAIN, 0, 1);
        }
        pass(end, 499);
        end.rub(0);
        pass(end, 1);
        end.rub(1);
        end.write(0, PLAIN, 0, 1);
        end.write(1, PLAIN, 0, 1);
        due(14, end.ends(0, 0), 999);
        due(14, end.ends(1, 0), NONE);
        due(14, end.ends(2, 0), NONE);
        pass(end, 499);
        due(14, end.ends(0, 0), 999);
        due(14, end.ends(1, 0), NONE);
        end.rub(2);
        due(14, end.ends(2, 0), NONE);
        end.write(3, CORRECTED, 0, 1);
        due(14, end.ends(3, 0), NONE);
        end.rub(3);
        due(14, end.ends(3, 0), 999);
    }

    private static void firstQuarrels() {
        says("FIRST QUARREL of a THING: none");
        ScrapedRoll x = new ScrapedRoll();
        for (int thing = 0; thing < 5; thing++) {
            due(15, x.quarrel(thing), NONE);
        }
        says("FIRST QUARREL: the first YEAR of 0");
        x.write(0, PLAIN, 4, 1);
        due(15, x.quarrel(4), NONE);
        x.write(1, PLAIN, 4, 0);
        due(15, x.quarrel(4), 0);
        due(15, x.quarrel(3), NONE);
        says("FIRST QUARREL: to 999");
        ScrapedRoll last = inYear(998);
        last.write(0, PLAIN, 0, 1);
        last.years(1);
        due(15, last.quarrel(0), NONE);
        last.write(1, PLAIN, 0, 0);
        due(15, last.quarrel(0), 999);
        says("FIRST QUARREL: one that is over counts, too");
        ScrapedRoll over = inYear(3);
        over.write(0, CORRECTED, 0, 1);
        over.years(1);
        over.write(1, CORRECTED, 0, 0);
        over.years(1);
        over.rub(0);
        over.rub(1);
        due(13, over.rule(0, 5), 0);
        due(15, over.quarrel(0), 4);
        pass(over, 900);
        due(15, over.quarrel(0), 4);
        over.write(2, PLAIN, 0, 0);
        over.write(3, PLAIN, 0, 1);
        due(15, over.quarrel(0), 4);
        says("FIRST QUARREL: by whichever CELL's LAYER comes last");
        for (int c = 0; c < 6; c++) {
            for (int lets = 0; lets <= 1; lets++) {
                ScrapedRoll by = inYear(2);
                by.write((c + 1) % 6, PLAIN, 0, lets);
                by.years(1);
                by.write(c, PLAIN, 0, 1 - lets);
                due(15, by.quarrel(0), 3);
            }
        }
        says("FIRST QUARREL: both of one YEAR, rubbed in it");
        ScrapedRoll at = inYear(6);
        at.write(0, CORRECTED, 0, 1);
        at.write(1, PLAIN, 0, 0);
        due(15, at.quarrel(0), 6);
        at.rub(0);
        due(15, at.quarrel(0), NONE);
        says("FIRST QUARREL: a draft RUBBED in the YEAR in which the other ends");
        ScrapedRoll just = new ScrapedRoll();
        just.write(0, CORRECTED, 0, 1);
        just.write(1, DRAFT, 0, 0);
        just.years(8);
        just.rub(1);
        due(15, just.quarrel(0), 8);
        just.rub(0);
        due(15, just.quarrel(0), NONE);
    }

    private static void tearing() {
        says("TEAR: nothing QUARRELS, nothing is torn");
        ScrapedRoll x = new ScrapedRoll();
        due(16, x.tear(0, NONE), 0);
        for (int c = 0; c < 6; c++) {
            due(16, x.tear(999, c), 0);
            x.write(c, PLAIN, 0, 1);
        }
        due(16, x.tear(0, NONE), 0);
        due(16, x.tear(0, 5), 0);

        says("TEAR: whichever are fewer; of like ones those that LET");
        for (int letting = 1; letting <= 5; letting++) {
            ScrapedRoll y = new ScrapedRoll();
            for (int c = 0; c < 6; c++) {
                y.write(c, PLAIN, 2, c < letting ? 1 : 0);
            }
            due(16, y.tear(0, NONE), Math.min(letting, 6 - letting));
            for (int c = 0; c < 6; c++) {
                boolean tornLet = letting <= 3;
                due(16, y.tear(0, c), c < letting == tornLet ? 1 : 0);
            }
        }

        says("TEAR: for each THING that QUARRELS, apart");
        ScrapedRoll each = new ScrapedRoll();
        for (int c = 0; c < 6; c++) {
            for (int i = 0; i < 4; i++) {
                // each stands for less long than the one under it, so that all bind for ever
                each.write(c, OLD, i, c % 2);
                each.years(4 - i);
                each.rub(c);
            }
        }
        due(30, each.count(2), 24);
        due(16, each.tear(999, NONE), 12);
        for (int c = 0; c < 6; c++) {
            due(16, each.tear(999, c), c % 2 == 1 ? 15 : 0);
        }
        due(16, each.tear(0, NONE), 0);

        says("TEAR in a YEAR: the LAYERS that BIND then alone");
        ScrapedRoll then = inYear(5);
        then.write(0, CORRECTED, 0, 1);
        then.write(1, PLAIN, 0, 0);
        then.write(2, DRAFT, 0, 0);
        then.years(5);
        then.rub(0);
        due(16, then.tear(4, NONE), 0);
        due(16, then.tear(5, NONE), 1);
        due(16, then.tear(5, 0), 1);
        due(16, then.tear(9, 0), 1);
        due(16, then.tear(9, 1), 0);
        due(16, then.tear(10, NONE), 0);
        due(16, then.tear(10, 0), 0);

        says("which of a CELL (bits): the upper alone");
        ScrapedRoll upper = new ScrapedRoll();
        upper.write(0, CORRECTED, 0, 1);
        upper.rub(0);
        upper.write(0, CORRECTED, 0, 1);
        upper.rub(0);
        upper.write(0, CORRECTED, 0, 1);
        upper.rub(0);
        upper.write(0, PLAIN, 0, 1);
        upper.write(1, PLAIN, 0, 0);
        due(16, upper.tear(0, 0), 8);
        due(16, upper.tear(0, 1), 0);
    }

    private static void hanging() {
        says("HANGS: THE LAW is another one without a LAYER");
        ScrapedRoll x = inYear(3);
        for (int c = 0; c < 5; c++) {
            x.write(c, PLAIN, c, c % 2);
            due(17, x.hangs(c, 0, 3), 1 << c);
            due(17, x.hangs(c, 0, 999), 1 << c);
            due(17, x.hangs(c, 0, 2), 0);
        }
        says("HANGS: from 3 to one side alone is another law");
        x.write(5, PLAIN, 0, 1);
        due(17, x.hangs(5, 0, 3), 1);
        due(17, x.hangs(0, 0, 3), 1);
        says("HANGS: another one says the same");
        x.undo();
        x.write(5, PLAIN, 0, 0);
        due(17, x.hangs(5, 0, 3), 0);
        due(17, x.hangs(0, 0, 3), 0);
        says("HANGS: one that does not BIND then");
        x.undo();
        x.write(5, DRAFT, 0, 1);
        due(17, x.hangs(5, 0, 3), 0);
        due(17, x.hangs(5, 0, 999), 0);
        x.undo();
        x.write(5, DRAFT, 0, 0);
        due(17, x.hangs(5, 0, 3), 0);
        due(17, x.hangs(0, 0, 3), 1);
        says("HANGS: as if that alone did not BIND; the one under it is not freed by it");
        ScrapedRoll y = new ScrapedRoll();
        pair(y, 0, new int[] {PLAIN, PLAIN}, 2, 0, 2);
        due(12, y.binds(0, 0, 4), 0);
        due(17, y.hangs(0, 1, 4), 16);
        due(17, y.hangs(0, 0, 4), 0);
        due(17, y.hangs(0, 0, 3), 1);
    }

    private static void dueStrokes(ScrapedRoll x, int thing, int v, int y, int many, int first) {
        due(18, x.strokes(thing, v, y, 0), many);
        due(18, x.strokes(thing, v, y, 1), first);
    }

    private static void dueParties(ScrapedRoll x, int y, int n, int got, int first) {
        due(19, x.parties(0, y, n, 0), got);
        due(19, x.parties(0, y, n, 1), first);
    }

    /** The last cells are full, each with its four layers rubbed; none of them binds. */
    private static ScrapedRoll onlyFirst(int cells) {
        ScrapedRoll x = new ScrapedRoll();
        for (int c = cells; c < 6; c++) {
            for (int i = 0; i < 4; i++) {
                x.write(c, CORRECTED, 4, 1);
                x.rub(c);
            }
        }
        return x;
    }

    private static void strokesOfOne() {
        says("STROKES: the fewest (0 .. 2): no stroke");
        ScrapedRoll x = inYear(5);
        x.write(3, PLAIN, 0, 1);
        dueStrokes(x, 0, 1, 0, 0, NONE);
        dueStrokes(x, 0, 1, 99, 0, NONE);
        says("STROKES: WRITE over CELL c: 10 and c, the first that can be");
        dueStrokes(x, 1, 1, 0, 1, 10);
        dueStrokes(x, 1, 2, 99, 1, 10);
        for (int c = 0; c < 5; c++) {
            if (c != 3) {
                x.write(c, DRAFT, 4, 1);
            }
        }
        dueStrokes(x, 1, 1, 0, 1, 15);
        says("STROKES: RUB CELL c: c, ahead of WRITING");
        ScrapedRoll draft = new ScrapedRoll();
        draft.write(5, DRAFT, 0, 1);
        dueStrokes(draft, 0, 1, 0, 1, 5);
        dueStrokes(draft, 0, 2, 0, 1, 10);
        says("STROKES: two, done now one behind the other, at one CELL, too");
        ScrapedRoll one = onlyFirst(1);
        one.write(0, DRAFT, 3, 1);
        dueStrokes(one, 0, 2, 0, 2, 0);
        dueStrokes(one, 3, 2, 0, 2, 0);
        says("STROKES: the first of the first such row (rising)");
        ScrapedRoll rows = new ScrapedRoll();
        rows.write(2, CORRECTED, 0, 0);
        rows.write(4, CORRECTED, 0, 0);
        // law 1 now: both must be rubbed, and one that lets is still wanting
        dueStrokes(rows, 0, 1, 0, NONE, NONE);
        rows.write(5, PLAIN, 0, 1);
        dueStrokes(rows, 0, 1, 0, 2, 2);
        says("STROKES: none: two are too few");
        rows.write(3, CORRECTED, 0, 0);
        dueStrokes(rows, 0, 1, 0, NONE, NONE);
        says("STROKES: none: nothing can be done");
        dueStrokes(onlyFirst(0), 0, 1, 0, NONE, NONE);
        dueStrokes(onlyFirst(0), 0, 2, 99, NONE, NONE);
        says("STROKES: a cell of 4 LAYERS can be RUBBED, and not WRITTEN over then");
        ScrapedRoll four = onlyFirst(0);
        four.undo();
        four.undo();
        four.write(5, PLAIN, 0, 0);
        dueStrokes(four, 0, 1, 0, NONE, NONE);
        four.undo();
        four.write(5, CORRECTED, 0, 0);
        dueStrokes(four, 0, 1, 0, NONE, NONE);
        four.undo();
        four.write(5, DRAFT, 0, 1);
        dueStrokes(four, 0, 1, 0, 1, 5);
        strokesByYears();
    }

    private static void strokesByYears() {
        says("STROKES: in y YEARS from now: what was put over it has stood as long just then");
        ScrapedRoll x = new ScrapedRoll();
        x.write(0, PLAIN, 0, 1);
        x.years(99);
        dueStrokes(x, 0, 2, 98, NONE, NONE);
        dueStrokes(x, 0, 2, 99, 2, 0);
        says("STROKES: in 0 YEARS: what stood for 0 is no more when it is put over");
        ScrapedRoll now = new ScrapedRoll();
        now.write(1, PLAIN, 0, 1);
        dueStrokes(now, 0, 2, 0, 2, 1);
        says("STROKES: (behind 999, too)");
        ScrapedRoll last = inYear(900);
        last.write(0, PLAIN, 0, 1);
        last.years(99);
        dueStrokes(last, 0, 2, 98, NONE, NONE);
        dueStrokes(last, 0, 2, 99, 2, 0);
        last.rub(0);
        last.write(0, PLAIN, 0, 0);
        dueStrokes(last, 0, 2, 98, NONE, NONE);
        dueStrokes(last, 0, 2, 99, 0, NONE);
        due(13, last.rule(0, 999), 3);
    }

    private static void parties() {
        says("PARTIES: n (1 .. 3): an empty skin");
        ScrapedRoll x = new ScrapedRoll();
        dueParties(x, 0, 1, 2, 10);
        dueParties(x, 99, 1, 2, 10);
        dueParties(x, 0, 2, 1, 10);
        dueParties(x, 0, 3, 1, 10);
        says("PARTIES: none (20): nothing can be done");
        for (int n = 1; n <= 3; n++) {
            dueParties(onlyFirst(0), 0, n, 1, 20);
        }
        says("PARTIES: the least by which it is so, though it is so already");
        ScrapedRoll let = onlyFirst(1);
        let.write(0, PLAIN, 0, 1);
        dueParties(let, 0, 1, 2, 0);
        says("PARTIES: a RUBS, b WRITES over it; so a does nothing, and b has to");
        // if a rubs, b covers what stood for 0 years: forbidden. If a does not, b rubs in vain.
        dueParties(let, 0, 2, 2, 20);
        // three: a rubs, b covers, a rubs b's: it stood for 0, none is over it, it binds: forbidden.
        // a none, b none, a none: let. a none, b rubs, a covers, or not: let.
        dueParties(let, 0, 3, 2, 20);
        says("PARTIES: what is FORBIDDEN is 0 to a");
        ScrapedRoll forbid = onlyFirst(1);
        forbid.write(0, PLAIN, 0, 0);
        dueParties(forbid, 0, 1, 0, 0);
        // a rubs, b none or whatever, a covers: let. b covers it first: forbidden. So 0, by any stroke.
        dueParties(forbid, 0, 2, 0, 0);
        dueParties(forbid, 0, 3, 0, 0);
        says("PARTIES: 0 or 3: 1");
        ScrapedRoll both = onlyFirst(0);
        for (int k = 0; k < 2; k++) {
            both.undo();
        }
        dueParties(both, 0, 1, 2, 15);
        both.write(5, CORRECTED, 0, 0);
        dueParties(both, 0, 1, 1, 5);
        // a rubs it, and b finds no place
        dueParties(both, 0, 2, 1, 5);
        says("PARTIES in y YEARS: by then b's stands over a's as long");
        ScrapedRoll late = onlyFirst(1);
        late.write(0, PLAIN, 0, 1);
        late.years(4);
        // a none, b rubs: it stood for 4, none is over it: let. a rubs, b covers: both till 4 years from now.
        dueParties(late, 3, 2, 2, 20);
        dueParties(late, 4, 2, 2, 20);
        dueParties(late, 4, 1, 2, 0);
    }

    // ---- the lamp

    private static void lamp() {
        says("SEEN 0 .. 5, as they come");
        ScrapedRoll x = new ScrapedRoll();
        due(21, x.forget(), 0);
        x.write(0, PLAIN, 0, 1);
        for (int k = 1; k <= 6; k++) {
            due(20, x.seen(0, 0, 999, 1), k);
            due(30, x.count(4), k);
        }
        due(20, x.seen(0, 0, 999, 1), FULL);
        due(21, x.forget(), 6);
        due(21, x.forget(), 0);
        due(20, x.seen(0, 0, 0, 0), 1);

        says("SEEN: no such LAYER, though there is one under it");
        due(20, x.seen(0, 1, 0, 0), BAD);
        due(20, x.seen(1, 0, 0, 0), BAD);

        says("IS: KINDS by which, were a LAYER of it, all SEEN of it are so: none SEEN");
        ScrapedRoll y = inYear(10);
        y.write(0, OLD, 0, 1);
        y.write(1, OLD, 0, 1);
        due(22, y.is(0, 0), 63);
        says("IS: ahead of when it was WRITTEN none BINDS");
        y.seen(0, 0, 9, 0);
        due(22, y.is(0, 0), 63);
        y.seen(0, 0, 9, 1);
        due(22, y.is(0, 0), 0);
        due(23, y.look(0, 0), NONE);
        due(22, y.is(1, 0), 63);
        says("IS: not RUBBED: drafts do not BIND");
        y.forget();
        y.seen(0, 0, 10, 1);
        due(22, y.is(0, 0), 1 | 4 | 8 | 16);
        y.forget();
        y.seen(0, 0, 10, 0);
        due(22, y.is(0, 0), 2 | 32);
        says("IS: by its years as they are now, whatever was SEEN ahead of its being RUBBED");
        y.years(7);
        y.rub(0);
        due(22, y.is(0, 0), 2 | 32);
        y.years(3);
        y.write(0, PLAIN, 0, 0);
        y.forget();
        int[] years = {9, 10, 16, 17, 22, 23, 26, 27, 29, 30, 33, 34, 999};
        int[] binding = {0, 29, 29, 55, 55, 51, 51, 48, 48, 16, 16, 0, 0};
        for (int k = 0; k < years.length; k++) {
            y.seen(0, 0, years[k], 1);
            due(22, y.is(0, 0), binding[k]);
            y.forget();
            y.seen(0, 0, years[k], 0);
            due(22, y.is(0, 0), 63 - binding[k]);
            y.forget();
        }
        says("IS: two that are at odds: no KIND");
        y.seen(0, 0, 20, 0);
        y.seen(0, 0, 20, 1);
        due(22, y.is(0, 0), 0);
        due(22, y.is(0, 1), 63);
        due(23, y.look(0, 0), NONE);
    }

    private static void looking() {
        says("LOOK: of like ones the first: nothing tells one KIND from another");
        ScrapedRoll x = inYear(17);
        x.write(0, PLAIN, 0, 1);
        x.seen(0, 0, 17, 1);
        due(22, x.is(0, 0), 29);
        due(23, x.look(0, 0), 17);
        says("LOOK: not RUBBED: the drafts apart, at once");
        x.forget();
        due(23, x.look(0, 0), 17);
        says("LOOK: all KINDS, of which none BINDS any more: THE YEAR");
        ScrapedRoll gone = new ScrapedRoll();
        pair(gone, 0, new int[] {PLAIN, PLAIN}, 2, 0, 30);
        due(22, gone.is(0, 0), 63);
        due(23, gone.look(0, 0), 32);
        pass(gone, 999);
        due(23, gone.look(0, 0), 999);
        says("LOOK: all KINDS, of which all but the CORRECTED BIND for ever: THE YEAR");
        ScrapedRoll stay = inYear(8);
        stay.write(0, PLAIN, 0, 1);
        stay.years(4);
        stay.rub(0);
        due(22, stay.is(0, 0), 63);
        due(23, stay.look(0, 0), 12);
        says("LOOK: the YEAR (0 .. 99 from now): 99 from now");
        ScrapedRoll far = new ScrapedRoll();
        far.write(0, PLAIN, 0, 1);
        far.years(99);
        far.rub(0);
        far.write(0, PLAIN, 0, 1);
        far.seen(0, 0, 0, 1);
        far.seen(0, 0, 148, 1);
        due(22, far.is(0, 0), 1 | 16);
        // the plain one ends in 198
        due(23, far.look(0, 0), 198);
        says("LOOK: not 100 from now");
        ScrapedRoll further = new ScrapedRoll();
        further.write(0, PLAIN, 0, 1);
        further.years(99);
        further.years(1);
        further.rub(0);
        further.write(0, PLAIN, 0, 1);
        further.seen(0, 0, 0, 1);
        further.seen(0, 0, 150, 1);
        due(22, further.is(0, 0), 1 | 16);
        due(23, further.look(0, 0), 100);
        further.years(1);
        due(23, further.look(0, 0), 200);
        says("LOOK: up to 999: it is told apart in 999");
        due(23, lateOne(499).look(0, 0), 999);
        says("LOOK: up to 999: it would be told apart in 1000");
        due(23, lateOne(500).look(0, 0), 950);
        says("LOOK: in the last YEAR that alone");
        ScrapedRoll last = lateOne(499);
        last.years(99);
        due(23, last.look(0, 0), 999);
    }

    /** Plain or old, by what was seen; put over in 500, so that the plain one that stood so long ends in 999 or in 1000. */
    private static ScrapedRoll lateOne(int stood) {
        ScrapedRoll x = new ScrapedRoll();
        x.write(0, PLAIN, 0, 1);
        pass(x, stood);
        x.rub(0);
        pass(x, 500 - stood);
        x.write(0, PLAIN, 0, 1);
        pass(x, 450);
        x.seen(0, 0, 0, 1);
        x.seen(0, 0, 949, 1);
        due(22, x.is(0, 0), 1 | 16);
        due(14, x.ends(0, 0), stood == 499 ? 999 : NONE);
        return x;
    }

    private static void dueFraction(ScrapedRoll x, int[] thumb, long above, long below) {
        due(24, x.thumbs(thumb[0], thumb[1], thumb[2], thumb[3]), 1);
        due(26, x.part(0), above);
        due(26, x.part(1), below);
    }

    private static void thumbs() {
        says("THE FRACTION is 0 by 1 at first; lowest terms, below above 0");
        ScrapedRoll x = inYear(4);
        due(26, x.part(0), 0);
        due(26, x.part(1), 1);
        says("THUMBS: no LAYER: nothing is law, for sure");
        for (int c = 0; c <= 4; c++) {
            dueFraction(x, new int[] {0, 4, 0, c}, 1, 1);
            for (int v = 1; v <= 3; v++) {
                dueFraction(x, new int[] {0, 4, v, c}, 0, 1);
            }
        }
        says("THUMBS: by c of 4 (0 .. 4): never at 0, always at 4");
        x.write(0, PLAIN, 0, 1);
        x.write(1, PLAIN, 0, 0);
        long[][] ways = {{0, 0, 0, 1}, {1, 3, 3, 9}, {1, 1, 1, 1}, {9, 3, 3, 1}, {1, 0, 0, 0}};
        long[] belows = {1, 16, 4, 16, 1};
        for (int c = 0; c <= 4; c++) {
            for (int v = 0; v <= 3; v++) {
                long above = ways[c][v];
                dueFraction(x, new int[] {0, 4, v, c}, above, above == 0 ? 1 : belows[c]);
            }
        }
        says("THUMBS: each LAYER that BINDS in a YEAR and is of a THING");
        dueFraction(x, new int[] {0, 3, 0, 1}, 1, 1);
        dueFraction(x, new int[] {1, 4, 0, 1}, 1, 1);
        x.write(2, DRAFT, 0, 0);
        dueFraction(x, new int[] {0, 999, 3, 1}, 9, 16);
        says("what is refused leaves THE FRACTION");
        due(24, x.thumbs(0, 1000, 0, 0), BAD);
        due(26, x.part(0), 9);
        due(26, x.part(1), 16);
        says("THUMBS: all 24 LAYERS");
        ScrapedRoll all = new ScrapedRoll();
        for (int c = 0; c < 6; c++) {
            for (int i = 0; i < 4; i++) {
                all.write(c, OLD, 3, 1);
                all.years(4 - i);
                all.rub(c);
            }
        }
        dueFraction(all, new int[] {3, 999, 0, 3}, 282429536481L, 281474976710656L);
        dueFraction(all, new int[] {3, 999, 1, 3}, 281474976710656L - 282429536481L, 281474976710656L);
        dueFraction(all, new int[] {3, 999, 0, 2}, 1, 16777216);
        dueFraction(all, new int[] {3, 999, 1, 1}, 281474976710655L, 281474976710656L);
        dueFraction(all, new int[] {3, 999, 0, 0}, 0, 1);
        dueFraction(all, new int[] {3, 999, 1, 0}, 1, 1);
    }

    private static void centuries() {
        says("CENTURIES: n 0: the YEAR then is THE YEAR");
        ScrapedRoll x = new ScrapedRoll();
        due(25, x.centuries(0, 0), 0);
        due(25, x.centuries(999999, 0), 0);
        for (int thing = 0; thing < 3; thing++) {
            x.write(2 * thing, PLAIN, thing, 1);
            x.write(2 * thing + 1, PLAIN, thing, 0);
            due(25, x.centuries(0, 0), thing + 1);
            due(25, x.centuries(999999, 0), thing + 1);
        }
        says("CENTURIES: once: X is 12345 by the SEED 0, so CELL 0 is RUBBED, no YEARS");
        ScrapedRoll once = new ScrapedRoll();
        once.write(0, CORRECTED, 0, 1);
        once.write(1, PLAIN, 0, 0);
        due(25, once.centuries(0, 0), 1);
        due(25, once.centuries(0, 1), 0);
        due(30, once.count(3), 1);
        says("CENTURIES: else one WRITTEN over it (PLAIN, of THING 0, that FORBIDS)");
        once.rub(0);
        once.write(2, PLAIN, 0, 1);
        once.rub(1);
        once.write(1, CORRECTED, 1, 1);
        once.years(1);
        due(25, once.centuries(0, 0), once.count(3));
        ScrapedRoll let = new ScrapedRoll();
        let.write(3, PLAIN, 0, 1);
        due(25, let.centuries(0, 0), 0);
        due(25, let.centuries(0, 1), 1);
        says("CENTURIES: .. if it can be: 4 LAYERS, the topmost one RUBBED");
        ScrapedRoll four = onlyFirst(0);
        four.roll();
        for (int i = 0; i < 4; i++) {
            four.write(0, CORRECTED, 4, 1);
            four.rub(0);
        }
        four.write(3, PLAIN, 0, 1);
        due(25, four.centuries(0, 1), 0);
        says("CENTURIES: YEARS go by (999 at most)");
        ScrapedRoll last = inYear(999);
        last.write(0, PLAIN, 0, 0);
        last.write(1, PLAIN, 0, 1);
        for (int n = 0; n <= 30; n++) {
            due(25, last.centuries(424242, n), slowly(424242, n));
        }
        due(25, last.centuries(999999, 30), slowly(999999, 30));
        due(30, last.count(1), 999);
    }

    /** The same by the calls themselves, from the last year on. */
    private static int slowly(int seed, int n) {
        ScrapedRoll x = inYear(999);
        x.write(0, PLAIN, 0, 0);
        x.write(1, PLAIN, 0, 1);
        BigInteger drawn = BigInteger.valueOf(seed);
        for (int k = 0; k < n; k++) {
            drawn = drawn.multiply(BigInteger.valueOf(1103515245)).add(BigInteger.valueOf(12345));
            drawn = drawn.mod(BigInteger.valueOf(2147483648L));
            int high = drawn.divide(BigInteger.valueOf(65536)).intValueExact();
            if (x.rub(high % 6) == NO) {
                int kind = high % 7;
                x.write(high % 6, kind == 6 ? 0 : kind, high % 5, high % 2);
            }
            x.years(drawn.divide(BigInteger.valueOf(1048576)).intValueExact() % 50);
        }
        return x.count(3);
    }

    // ---- what there is

    private static void images() {
        says("IMAGES 0, 1: NO: none was kept");
        ScrapedRoll x = new ScrapedRoll();
        due(28, x.from(0), NO);
        due(27, x.image(1), 1);
        due(28, x.from(0), NO);
        says("an IMAGE of an empty roll is one, too");
        x.write(0, 0, 0, 0);
        x.years(3);
        due(28, x.from(1), 1);
        due(30, x.count(0), 0);
        due(30, x.count(1), 0);
        due(6, x.undo(), NO);
        says("IMAGES keep all but them: each its own, kept over, never lost");
        x.years(1);
        due(27, x.image(0), 1);
        x.years(1);
        due(27, x.image(1), 1);
        due(28, x.from(0), 1);
        due(30, x.count(1), 1);
        due(28, x.from(1), 1);
        due(30, x.count(1), 2);
        due(28, x.from(0), 1);
        due(27, x.image(1), 1);
        due(28, x.from(1), 1);
        due(30, x.count(1), 1);
        x.roll();
        due(28, x.from(0), 1);
        due(30, x.count(1), 1);
        says("what may be undone they keep; it goes on from one");
        ScrapedRoll y = new ScrapedRoll();
        for (int k = 0; k < 7; k++) {
            y.years(10);
        }
        due(27, y.image(0), 1);
        for (int k = 60; k >= 10; k -= 10) {
            due(6, y.undo(), k);
        }
        due(6, y.undo(), NO);
        for (int again = 0; again < 2; again++) {
            due(28, y.from(0), 1);
            due(30, y.count(5), 6);
            for (int k = 60; k >= 10; k -= 10) {
                due(6, y.undo(), k);
            }
            due(6, y.undo(), NO);
        }
        says("IMAGES keep SEEN as they came");
        ScrapedRoll lamps = new ScrapedRoll();
        for (int c = 0; c < 6; c++) {
            lamps.write(c, PLAIN, 0, 1);
            lamps.rub(c);
        }
        for (int k = 0; k < 6; k++) {
            lamps.write(5 - k, PLAIN, 0, 0);
            lamps.seen(5 - k, k % 2, 10 * k, k % 2);
        }
        long lampsDigest = lamps.digest();
        due(27, lamps.image(0), 1);
        lamps.forget();
        for (int k = 0; k < 6; k++) {
            lamps.seen(k, 1 - k % 2, 10 * k + 1, 1 - k % 2);
        }
        due(27, lamps.image(1), 1);
        due(28, lamps.from(0), 1);
        due(28, lamps.digest(), lampsDigest);
        due(28, lamps.from(1), 1);
        due(28, lamps.digest() == lampsDigest ? 1 : 0, 0);
        says("IMAGES keep SEEN, not THE TEXT, THE FRACTION and STATUS");
        ScrapedRoll z = new ScrapedRoll();
        z.write(4, PLAIN, 0, 1);
        for (int k = 0; k < 6; k++) {
            z.seen(4, 0, k, 1);
        }
        z.type('a');
        z.thumbs(0, 0, 0, 1);
        z.image(1);
        z.forget();
        z.type('b');
        z.thumbs(0, 0, 0, 2);
        z.rub(9);
        due(28, z.from(1), 1);
        due(30, z.count(4), 6);
        due(20, z.seen(4, 0, 0, 0), FULL);
        due(30, z.count(6), 2);
        due(26, z.part(1), 2);
        due(29, z.status(0), 1);
        due(29, z.status(2), 1);
    }

    private static void statusAndCounts() {
        says("STATUS: -1: another what (counts as BAD)");
        ScrapedRoll x = new ScrapedRoll();
        due(29, x.status(0), 0);
        due(29, x.status(3), -1);
        due(29, x.status(0), 1);
        due(29, x.status(-1), -1);
        due(29, x.status(0), 2);
        says("(where others are told they count as these): -10 is BAD");
        due(29, x.of(0, 0, 0), -10);
        due(29, x.status(0), 3);
        due(29, x.tear(0, 6), -10);
        due(29, x.status(0), 4);
        says("NONE and a FAULT are no refusals");
        due(29, x.quarrel(0), NONE);
        due(29, x.read(), -10);
        due(29, x.status(0) + x.status(1) + x.status(2), 4);
        says("STATUS stays, whatever is read, begun again, gone on from");
        x.rub(0);
        x.image(0);
        x.roll();
        x.from(0);
        for (char b : "roll;".toCharArray()) {
            x.type(b);
        }
        x.read();
        due(29, x.status(0), 4);
        due(29, x.status(1), 1);
        due(29, x.status(2), 0);

        says("LAYERS that BIND now, THINGS that QUARREL now");
        ScrapedRoll y = new ScrapedRoll();
        for (int thing = 0; thing < 3; thing++) {
            y.write(2 * thing, CORRECTED, thing, 1);
            y.write(2 * thing + 1, CORRECTED, thing, 0);
            due(30, y.count(2), 2 * thing + 2);
            due(30, y.count(3), thing + 1);
        }
        y.rub(0);
        due(30, y.count(2), 5);
        due(30, y.count(3), 2);
        y.write(0, DRAFT, 0, 1);
        due(30, y.count(2), 5);
        y.rub(0);
        due(30, y.count(2), 6);
        due(30, y.count(3), 3);
    }

    private static void dueDigest(ScrapedRoll x, List<Long> values) {
        BigInteger h = BigInteger.valueOf(1163);
        for (long v : values) {
            h = h.multiply(BigInteger.valueOf(31)).add(BigInteger.valueOf(v));
        }
        due(31, x.digest(), h.longValue());
    }

    private static void digests() {
        says("h = 31 h + v, by the long's wrap-around: an empty one");
        ScrapedRoll x = new ScrapedRoll();
        List<Long> empty = new ArrayList<>();
        for (int k = 0; k < 14; k++) {
            empty.add(0L);
        }
        empty.add(1L);
        dueDigest(x, empty);
        says("h = 31 h + v: a full one, all 24 LAYERS, 6 SEEN, 150 bytes");
        List<Long> full = new ArrayList<>();
        for (int c = 0; c < 6; c++) {
            full.add(4L);
            for (int i = 0; i < 4; i++) {
                x.write(c, (c + i) % 6, (c * 4 + i) % 5, i % 2);
                for (long v : new long[] {(c + i) % 6, (c * 4 + i) % 5, i % 2, 4 * c + i}) {
                    full.add(v);
                }
                full.add(i < 3 ? 4L * c + i + 1 : -1L);
                x.years(1);
                if (i < 3) {
                    x.rub(c);
                }
            }
        }
        for (int k = 0; k < 6; k++) {
            x.seen(5 - k, k % 4, 999 - k, k % 2);
            for (long v : new long[] {5 - k, k % 4, 999 - k, k % 2}) {
                full.add(v);
            }
        }
        for (int k = 0; k < 150; k++) {
            x.type(k % 128);
        }
        due(24, x.thumbs(0, 0, 2, 1), 1);
        full.add(3L);
        full.add(4L);
        for (int what = 6; what >= 0; what--) {
            full.add(0, (long) x.count(what));
        }
        due(30, full.get(0), 24);
        due(30, full.get(1), 24);
        due(30, full.get(4), 6);
        due(30, full.get(5), 6);
        due(30, full.get(6), 150);
        dueDigest(x, full);
        says("the number of undone steps, of SEEN, of bytes, is seen by it");
        long before = x.digest();
        x.undo();
        due(31, x.digest() == before ? 1 : 0, 0);
        x.years(1);
        due(31, x.digest(), before);
        x.clear();
        due(31, x.digest() == before ? 1 : 0, 0);
    }
}
