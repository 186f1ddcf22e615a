import java.util.ArrayList;
import java.util.List;
import java.util.function.Consumer;
import java.util.function.Supplier;

/**
 * Every number that a call takes: each one within its bounds is taken, each one just outside them
 * or far off is refused as the document tells, is counted once and changes nothing else. Whether
 * anything else was changed is seen by a twin that was not asked: both are unravelled and compared.
 */
public final class BoundsTest {
    private static final int BAD = -2, NO = -3, FULL = -4, LOW_BAD = -10;
    private static final int[] FAR = {Integer.MIN_VALUE, Integer.MIN_VALUE + 1, -65536, -256, 256, 65536, 1 << 24,
        Integer.MAX_VALUE - 1, Integer.MAX_VALUE};
    private static int wrong = 0;
    private static int asked = 0;

    private interface Call {
        long on(ScrapedRoll x, int n);
    }

    public static void main(String[] args) {
        rollNumbers();
        lawNumbers();
        lampNumbers();
        otherNumbers();
        numbersOfLayers();
        severalNumbersAtOnce();
        theFirstReasonCounts();
        refusedAsNo();
        refusedAsFull();
        faultsChangeNothing();
        questionsChangeNothing();
        changesOnlyWhatIsTold();
        manyCalls();
        System.out.println(asked + " asked, " + wrong + " not as due");
        if (wrong != 0) {
            System.exit(1);
        }
    }

    private static void due(String what, long got, long want) {
        asked++;
        if (got != want) {
            wrong++;
            System.out.println(what + " answered " + got + ", due is " + want);
        }
    }

    private static void same(String what, List<Long> got, List<Long> want) {
        asked++;
        if (!got.equals(want)) {
            wrong++;
            System.out.println(what + " left " + got + ", due is " + want);
        }
    }

    // ---- scenes: much of everything, so that a change can be seen

    private static void tell(ScrapedRoll x, String text) {
        for (int k = 0; k < text.length(); k++) {
            x.type(text.charAt(k));
        }
    }

    /** Each cell has two layers and the topmost is rubbed. */
    private static ScrapedRoll rubbed() {
        ScrapedRoll x = new ScrapedRoll();
        tell(x, "roll;years 40;write 3 2 1 0;");
        for (int c = 0; c < 6; c++) {
            x.write(c, c, c % 5, c % 2);
            x.years(c + 1);
            x.rub(c);
            x.write(c, 5 - c, 0, 1 - c % 2);
        }
        x.seen(2, 1, 12, 1);
        x.image(0);
        x.years(6);
        x.seen(5, 0, 7, 0);
        x.image(1);
        for (int c = 0; c < 6; c++) {
            x.rub(c);
        }
        x.thumbs(0, 27, 1, 1);
        x.layers(6);
        x.undo();
        x.rub(5);
        return x;
    }

    /** Each cell has a topmost layer that is not rubbed, cell 0 the fourth one. */
    private static ScrapedRoll standing() {
        ScrapedRoll x = rubbed();
        for (int c = 5; c >= 0; c--) {
            x.write(c, 0, c % 5, 1);
        }
        x.years(3);
        x.rub(0);
        x.write(0, 4, 2, 0);
        return x;
    }

    private static void statuses(ScrapedRoll x, List<Long> all) {
        for (int what = 0; what <= 2; what++) {
            all.add((long) x.status(what));
        }
    }

    private static void undoAll(ScrapedRoll x, List<Long> all) {
        long answer = 0;
        for (int k = 0; k < 9 && answer >= 0; k++) {
            all.add(x.digest());
            answer = x.undo();
            all.add(answer);
        }
    }

    /** All that can be seen of an object, but for its statuses; the object is used up by it. */
    private static List<Long> unravelled(ScrapedRoll x) {
        List<Long> all = new ArrayList<>();
        undoAll(x, all);
        for (int i = 0; i < 2; i++) {
            all.add((long) x.from(i));
            undoAll(x, all);
        }
        all.add((long) x.read());
        all.add(x.digest());
        all.add((long) x.clear());
        return all;
    }

    private static List<Long> statusesOf(ScrapedRoll x) {
        List<Long> all = new ArrayList<>();
        statuses(x, all);
        return all;
    }

    /** Reason 0 BAD, 1 NO, 2 FULL, 3 none: just that one is counted, once, and nothing else is changed. */
    private static void countedOnly(String what, Supplier<ScrapedRoll> scene, Consumer<ScrapedRoll> call, int reason) {
        ScrapedRoll x = scene.get();
        List<Long> want = statusesOf(x);
        if (reason < 3) {
            want.set(reason, want.get(reason) + 1);
        }
        call.accept(x);
        same(what + ": STATUS", statusesOf(x), want);
        same(what + ": all else", unravelled(x), unravelled(scene.get()));
    }

    private static void refused(String what, Supplier<ScrapedRoll> scene, Call call, int n, int bad) {
        due(what + " " + n, call.on(scene.get(), n), bad);
        countedOnly(what + " " + n, scene, x -> call.on(x, n), 0);
    }

    private static void taken(String what, Supplier<ScrapedRoll> scene, Call call, int n) {
        ScrapedRoll x = scene.get();
        List<Long> before = statusesOf(x);
        long answer = call.on(x, n);
        asked++;
        if (answer < -1) {
            wrong++;
            System.out.println(what + " " + n + " answered " + answer + ", due is no refusal");
        }
        same(what + " " + n + ": no refusal", statusesOf(x), before);
    }

    /** The number n of a call is from least to most; another one is answered by bad. */
    private static void number(String what, Supplier<ScrapedRoll> scene, int least, int most, int bad, Call call) {
        for (int n = least; n <= most; n++) {
            // of the many seeds only those at the ends
            if (n < least + 1100 || n > most - 10) {
                taken(what, scene, call, n);
            }
        }
        for (int n = 1; n <= 3; n++) {
            refused(what, scene, call, least - n, bad);
            refused(what, scene, call, most + n, bad);
        }
        for (int far : FAR) {
            if (far < least || far > most) {
                refused(what, scene, call, far, bad);
            }
        }
    }

    private static void rollNumbers() {
        Supplier<ScrapedRoll> rubbed = BoundsTest::rubbed;
        Supplier<ScrapedRoll> standing = BoundsTest::standing;
        number("3: write, cell", rubbed, 0, 5, BAD, (x, n) -> x.write(n, 1, 1, 1));
        number("3: write, kind", rubbed, 0, 5, BAD, (x, n) -> x.write(3, n, 1, 1));
        number("3: write, thing", rubbed, 0, 4, BAD, (x, n) -> x.write(3, 1, n, 1));
        number("3: write, lets", rubbed, 0, 1, BAD, (x, n) -> x.write(3, 1, 1, n));
        number("4: rub, cell", standing, 0, 5, BAD, (x, n) -> x.rub(n));
        number("5: years", rubbed, 1, 99, BAD, (x, n) -> x.years(n));
        number("7: type", rubbed, 0, 127, BAD, (x, n) -> x.type(n));
        number("10: layers", rubbed, 0, 5, BAD, (x, n) -> x.layers(n));
        number("11: of, cell", rubbed, 0, 5, LOW_BAD, (x, n) -> x.of(n, 1, 1));
        number("11: of, layer", standing, 0, 3, LOW_BAD, (x, n) -> x.of(0, n, 1));
        number("11: of, what", standing, 0, 4, LOW_BAD, (x, n) -> x.of(4, 0, n));
    }

    private static void lawNumbers() {
        Supplier<ScrapedRoll> standing = BoundsTest::standing;
        number("12: binds, cell", standing, 0, 5, BAD, (x, n) -> x.binds(n, 0, 9));
        number("12: binds, layer", standing, 0, 3, BAD, (x, n) -> x.binds(0, n, 9));
        number("12: binds, year", standing, 0, 999, BAD, (x, n) -> x.binds(4, 1, n));
        number("13: rule, thing", standing, 0, 4, BAD, (x, n) -> x.rule(n, 9));
        number("13: rule, year", standing, 0, 999, BAD, (x, n) -> x.rule(2, n));
        number("14: ends, cell", standing, 0, 5, BAD, (x, n) -> x.ends(n, 1));
        number("14: ends, layer", standing, 0, 3, BAD, (x, n) -> x.ends(0, n));
        number("15: quarrel", standing, 0, 4, BAD, (x, n) -> x.quarrel(n));
        number("16: tear, year", standing, 0, 999, LOW_BAD, (x, n) -> x.tear(n, 3));
        number("16: tear, year, how many", standing, 0, 999, LOW_BAD, (x, n) -> x.tear(n, ScrapedRoll.NONE));
        number("16: tear, cell, or NONE", standing, -1, 5, LOW_BAD, (x, n) -> x.tear(20, n));
        number("17: hangs, cell", standing, 0, 5, BAD, (x, n) -> x.hangs(n, 0, 9));
        number("17: hangs, layer", standing, 0, 3, BAD, (x, n) -> x.hangs(0, n, 9));
        number("17: hangs, year", standing, 0, 999, BAD, (x, n) -> x.hangs(4, 1, n));
        for (int ask = 0; ask <= 1; ask++) {
            int what = ask;
            number("18: strokes, thing", standing, 0, 4, BAD, (x, n) -> x.strokes(n, 1, 5, what));
            number("18: strokes, law", standing, 1, 2, BAD, (x, n) -> x.strokes(0, n, 5, what));
            number("18: strokes, years", standing, 0, 99, BAD, (x, n) -> x.strokes(0, 1, n, what));
            number("19: parties, thing", standing, 0, 4, BAD, (x, n) -> x.parties(n, 5, 2, what));
            number("19: parties, years", standing, 0, 99, BAD, (x, n) -> x.parties(0, n, 2, what));
            number("19: parties, strokes", standing, 1, 3, BAD, (x, n) -> x.parties(0, 5, n, what));
        }
        number("18: strokes, what", standing, 0, 1, BAD, (x, n) -> x.strokes(0, 1, 5, n));
        number("19: parties, what", standing, 0, 1, BAD, (x, n) -> x.parties(0, 5, 1, n));
    }

    private static void lampNumbers() {
        Supplier<ScrapedRoll> standing = BoundsTest::standing;
        number("20: seen, cell", standing, 0, 5, BAD, (x, n) -> x.seen(n, 0, 9, 1));
        number("20: seen, layer", standing, 0, 3, BAD, (x, n) -> x.seen(0, n, 9, 1));
        number("20: seen, year", standing, 0, 999, BAD, (x, n) -> x.seen(4, 1, n, 1));
        number("20: seen, bound", standing, 0, 1, BAD, (x, n) -> x.seen(4, 1, 9, n));
        number("22: is, cell", standing, 0, 5, BAD, (x, n) -> x.is(n, 0));
        number("22: is, layer", standing, 0, 3, BAD, (x, n) -> x.is(0, n));
        number("23: look, cell", standing, 0, 5, BAD, (x, n) -> x.look(n, 0));
        number("23: look, layer", standing, 0, 3, BAD, (x, n) -> x.look(0, n));
        number("24: thumbs, thing", standing, 0, 4, BAD, (x, n) -> x.thumbs(n, 20, 1, 2));
        number("24: thumbs, year", standing, 0, 999, BAD, (x, n) -> x.thumbs(0, n, 1, 2));
        number("24: thumbs, law", standing, 0, 3, BAD, (x, n) -> x.thumbs(0, 20, n, 2));
        number("24: thumbs, of 4", standing, 0, 4, BAD, (x, n) -> x.thumbs(0, 20, 1, n));
        number("25: centuries, seed", standing, 0, 999999, BAD, (x, n) -> x.centuries(n, 3));
        number("25: centuries, times", standing, 0, 30, BAD, (x, n) -> x.centuries(77, n));
    }

    private static void otherNumbers() {
        Supplier<ScrapedRoll> standing = BoundsTest::standing;
        number("26: part", standing, 0, 1, BAD, (x, n) -> x.part(n));
        number("27: image", standing, 0, 1, BAD, (x, n) -> x.image(n));
        number("28: from", standing, 0, 1, BAD, (x, n) -> x.from(n));
        number("29: status", standing, 0, 2, -1, (x, n) -> x.status(n));
        number("30: count", standing, 0, 6, BAD, (x, n) -> x.count(n));
    }

    /** A cell of two, one or no layers: the first number of none is too large. */
    private static void numbersOfLayers() {
        for (int many = 0; many <= 4; many++) {
            int have = many;
            Supplier<ScrapedRoll> scene = () -> {
                ScrapedRoll x = standing();
                x.roll();
                for (int i = 0; i < have; i++) {
                    x.rub(5);
                    x.write(5, i, i, 1);
                }
                return x;
            };
            String of = " of " + many;
            number("11: of, layer" + of, scene, 0, many - 1, LOW_BAD, (x, n) -> x.of(5, n, 0));
            number("12: binds, layer" + of, scene, 0, many - 1, BAD, (x, n) -> x.binds(5, n, 9));
            number("14: ends, layer" + of, scene, 0, many - 1, BAD, (x, n) -> x.ends(5, n));
            number("17: hangs, layer" + of, scene, 0, many - 1, BAD, (x, n) -> x.hangs(5, n, 9));
            number("20: seen, layer" + of, scene, 0, many - 1, BAD, (x, n) -> x.seen(5, n, 9, 1));
            number("22: is, layer" + of, scene, 0, many - 1, BAD, (x, n) -> x.is(5, n));
            number("23: look, layer" + of, scene, 0, many - 1, BAD, (x, n) -> x.look(5, n));
        }
    }

    private static void severalNumbersAtOnce() {
        Supplier<ScrapedRoll> s = BoundsTest::standing;
        refused("3: all are wrong", s, (x, n) -> x.write(n, n, n, n), -1, BAD);
        refused("11: all are wrong", s, (x, n) -> x.of(n, n, n), 9, LOW_BAD);
        refused("12: all are wrong", s, (x, n) -> x.binds(n, n, n), -1, BAD);
        refused("13: all are wrong", s, (x, n) -> x.rule(n, n), -1, BAD);
        refused("16: all are wrong", s, (x, n) -> x.tear(n, n), -2, LOW_BAD);
        refused("17: all are wrong", s, (x, n) -> x.hangs(n, n, n), -1, BAD);
        refused("18: all are wrong", s, (x, n) -> x.strokes(n, n, n, n), 100, BAD);
        refused("19: all are wrong", s, (x, n) -> x.parties(n, n, n, n), 100, BAD);
        refused("20: all are wrong", s, (x, n) -> x.seen(n, n, n, n), 1000, BAD);
        refused("24: all are wrong", s, (x, n) -> x.thumbs(n, n, n, n), 1000, BAD);
        refused("25: all are wrong", s, (x, n) -> x.centuries(n, n), 1000000, BAD);
    }

    private static void refusedBy(String what, Supplier<ScrapedRoll> scene, Call call, int want) {
        due(what, call.on(scene.get(), 0), want);
        countedOnly(what, scene, x -> call.on(x, 0), BAD - want);
    }

    /** "Refused .. the first of: BAD; NO; FULL". */
    private static void theFirstReasonCounts() {
        Supplier<ScrapedRoll> standing = BoundsTest::standing;
        refusedBy("3: BAD ahead of NO", standing, (x, n) -> x.write(1, 6, 0, 0), BAD);
        refusedBy("3: BAD ahead of NO", standing, (x, n) -> x.write(1, 0, 5, 0), BAD);
        refusedBy("3: BAD ahead of NO", standing, (x, n) -> x.write(1, 0, 0, 2), BAD);
        refusedBy("3: NO ahead of FULL", standing, (x, n) -> x.write(0, 0, 0, 0), NO);
        refusedBy("3: BAD ahead of FULL", BoundsTest::fourRubbed, (x, n) -> x.write(0, 0, 0, -1), BAD);
        refusedBy("7: BAD ahead of FULL", BoundsTest::fullText, (x, n) -> x.type(128), BAD);
        refusedBy("20: BAD ahead of FULL, the layer", BoundsTest::sixSeen, (x, n) -> x.seen(1, 3, 0, 0), BAD);
        refusedBy("20: BAD ahead of FULL, the year", BoundsTest::sixSeen, (x, n) -> x.seen(1, 0, 1000, 0), BAD);
        refusedBy("28: BAD ahead of NO", BoundsTest::noImages, (x, n) -> x.from(2), BAD);
    }

    private static ScrapedRoll fourRubbed() {
        ScrapedRoll x = standing();
        x.rub(0);
        return x;
    }

    private static ScrapedRoll fullText() {
        ScrapedRoll x = standing();
        for (int k = x.count(6); k < 150; k++) {
            x.type(' ');
        }
        return x;
    }

    private static ScrapedRoll sixSeen() {
        ScrapedRoll x = standing();
        for (int k = x.count(4); k < 6; k++) {
            x.seen(1, 2, k, k % 2);
        }
        return x;
    }

    private static ScrapedRoll noImages() {
        ScrapedRoll x = new ScrapedRoll();
        x.write(2, 2, 2, 1);
        x.years(2);
        return x;
    }

    private static ScrapedRoll nothingToUndo() {
        ScrapedRoll x = standing();
        for (int k = 0; k < 6; k++) {
            x.undo();
        }
        return x;
    }

    private static void refusedAsNo() {
        for (int c = 0; c < 6; c++) {
            int cell = c;
            refusedBy("3: NO, the topmost one is not RUBBED", BoundsTest::standing, (x, n) -> x.write(cell, 0, 0, 0), NO);
            refusedBy("4: NO, it is RUBBED", BoundsTest::rubbed, (x, n) -> x.rub(cell), NO);
            refusedBy("4: NO, there is none", ScrapedRoll::new, (x, n) -> x.rub(cell), NO);
        }
        refusedBy("6: NO, none may be", BoundsTest::nothingToUndo, (x, n) -> x.undo(), NO);
        refusedBy("6: NO, a new one", ScrapedRoll::new, (x, n) -> x.undo(), NO);
        refusedBy("28: NO, none was kept", BoundsTest::noImages, (x, n) -> x.from(0), NO);
        refusedBy("28: NO, none was kept", BoundsTest::noImages, (x, n) -> x.from(1), NO);
    }

    private static void refusedAsFull() {
        refusedBy("3: FULL, 4", BoundsTest::fourRubbed, (x, n) -> x.write(0, 0, 0, 0), FULL);
        refusedBy("7: FULL, 150", BoundsTest::fullText, (x, n) -> x.type('r'), FULL);
        refusedBy("20: FULL, 6", BoundsTest::sixSeen, (x, n) -> x.seen(1, 0, 0, 0), FULL);
    }

    private static void faultsChangeNothing() {
        for (String text : new String[] {"", " ", "roll", "roll;roll;", "roll;years 5;rub 0;", "roll;write 1 1 1 1;%"}) {
            Supplier<ScrapedRoll> scene = () -> {
                ScrapedRoll x = standing();
                x.clear();
                tell(x, text);
                return x;
            };
            countedOnly("9: all stays, \"" + text + "\"", scene, x -> x.read(), 3);
        }
    }

    private static void changesNothing(String what, Consumer<ScrapedRoll> call) {
        countedOnly(what, BoundsTest::standing, call, 3);
        countedOnly(what, BoundsTest::rubbed, call, 3);
    }

    /** "(Nothing is changed by these.)", and what there is. */
    private static void questionsChangeNothing() {
        changesNothing("10: layers", x -> x.layers(0));
        changesNothing("11: of", x -> x.of(0, 0, 4));
        changesNothing("12: binds", x -> x.binds(0, 0, 999));
        changesNothing("13: rule", x -> x.rule(0, 999));
        changesNothing("14: ends", x -> x.ends(0, 0));
        changesNothing("15: quarrel", x -> x.quarrel(0));
        changesNothing("16: tear", x -> x.tear(20, -1));
        changesNothing("16: tear", x -> x.tear(20, 0));
        changesNothing("17: hangs", x -> x.hangs(0, 0, 20));
        for (int what = 0; what <= 1; what++) {
            int w = what;
            changesNothing("18: strokes", x -> x.strokes(0, 1, 0, w));
            changesNothing("18: strokes", x -> x.strokes(3, 2, 99, w));
            changesNothing("19: parties", x -> x.parties(0, 0, 1, w));
            changesNothing("19: parties", x -> x.parties(3, 99, 3, w));
            changesNothing("26: part", x -> x.part(w));
        }
        changesNothing("22: is", x -> x.is(2, 1));
        changesNothing("23: look", x -> x.look(2, 1));
        changesNothing("25: centuries", x -> x.centuries(999999, 30));
        changesNothing("25: centuries", x -> x.centuries(0, 0));
        changesNothing("29: status", x -> x.status(2));
        changesNothing("30: count", x -> x.count(2));
        changesNothing("31: digest", x -> x.digest());
    }

    private static ScrapedRoll imaged() {
        ScrapedRoll x = standing();
        x.image(1);
        x.thumbs(0, 20, 1, 1);
        return x;
    }

    private static void leavesAllElse(String what, Consumer<ScrapedRoll> thereAndBack) {
        countedOnly(what, BoundsTest::imaged, thereAndBack, 3);
    }

    /** What a call changes is put back by another: all else must be as it was. */
    private static void changesOnlyWhatIsTold() {
        leavesAllElse("7, 8: only THE TEXT", x -> {
            x.type('x');
            x.clear();
            tell(x, "roll;years 40;write 3 2 1 0;");
        });
        leavesAllElse("20, 21: only SEEN", x -> {
            x.seen(0, 0, 0, 0);
            x.forget();
            x.seen(2, 1, 12, 1);
            x.seen(5, 0, 7, 0);
        });
        leavesAllElse("24: only THE FRACTION", x -> {
            x.thumbs(1, 20, 0, 3);
            x.thumbs(0, 20, 1, 1);
        });
        leavesAllElse("27: only that IMAGE", x -> x.image(1));
        leavesAllElse("28: all but IMAGES, THE TEXT, THE FRACTION, STATUS", x -> {
            x.years(30);
            x.rub(3);
            x.write(3, 0, 0, 0);
            x.forget();
            x.from(1);
        });
        leavesAllElse("2: all but IMAGES, THE TEXT, THE FRACTION, STATUS", x -> {
            x.roll();
            x.from(1);
        });
        leavesAllElse("9: all but IMAGES, THE TEXT, THE FRACTION, STATUS", x -> {
            due("9: it is read", x.read(), 3);
            x.from(1);
        });
        Supplier<ScrapedRoll> fewSteps = () -> {
            ScrapedRoll x = imaged();
            x.undo();
            x.undo();
            return x;
        };
        countedOnly("6: years undone", fewSteps, x -> {
            x.years(99);
            x.undo();
        }, 3);
        countedOnly("6: rubbing and writing undone", fewSteps, x -> {
            x.rub(1);
            x.write(1, 5, 4, 0);
            x.undo();
            x.undo();
        }, 3);
    }

    private static void manyCalls() {
        ScrapedRoll x = new ScrapedRoll();
        for (int k = 0; k < 511; k++) {
            x.rub(-1);
        }
        due("29: the 512th call", x.status(0), 511);
        ScrapedRoll y = new ScrapedRoll();
        for (int k = 0; k < 255; k++) {
            y.years(99);
            y.undo();
        }
        due("6: the 511th call", y.years(7), 7);
        due("30: the 512th call", y.count(5), 1);
    }
}
