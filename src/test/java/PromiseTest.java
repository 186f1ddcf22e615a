/** Each promise of the document but the reading of texts, with its edges and wrong inputs. */
public final class PromiseTest {
    private static final int NONE = -1, BAD = -2, NO = -3, FULL = -4, LOW_BAD = -10;
    private static final int[] FAR = {-1, Integer.MIN_VALUE, Integer.MAX_VALUE};
    private static int wrong = 0;
    private static int asked = 0;

    public static void main(String[] args) {
        newObject();
        roll();
        write();
        rub();
        years();
        undo();
        typeAndClear();
        layersAndOf();
        bindsByKind();
        bindsByYears();
        rule();
        ends();
        quarrel();
        tear();
        hangs();
        strokes();
        strokesBehindTheLastYear();
        parties();
        seenAndForget();
        is();
        look();
        thumbs();
        centuries();
        part();
        images();
        status();
        everyBadCallCounts();
        everyNoAndFullCounts();
        count();
        digest();
        refusedCallsChangeNothing();
        System.out.println(asked + " asked, " + wrong + " not as due");
        if (wrong != 0) {
            System.exit(1);
        }
    }

    private static void due(String what, long got, long want) {
        asked++;
        if (got != want) {
            wrong++;
            System.out.println(what + " answered " + got + ", due is " + want);
        }
    }

    private static void newObject() {
        ScrapedRoll x = new ScrapedRoll();
        for (int what = 0; what <= 6; what++) {
            due("1: count of a new one", x.count(what), 0);
        }
        for (int c = 0; c < 6; c++) {
            due("1: layers of a new one", x.layers(c), 0);
        }
        due("1: above", x.part(0), 0);
        due("1: below", x.part(1), 1);
        due("1: no image 0", x.from(0), NO);
        due("1: no image 1", x.from(1), NO);
    }

    private static void roll() {
        ScrapedRoll x = new ScrapedRoll();
        due("2: of none", x.roll(), 0);
        x.write(0, 0, 0, 1);
        x.write(3, 0, 0, 0);
        x.rub(3);
        x.write(3, 1, 4, 0);
        x.years(5);
        x.seen(0, 0, 1, 1);
        x.type('a');
        x.image(0);
        x.thumbs(0, 0, 1, 1);
        x.rub(5);
        due("2: three", x.roll(), 3);
        due("2: no layers", x.count(0), 0);
        due("2: year", x.count(1), 0);
        due("2: no seen", x.count(4), 0);
        due("2: nothing to undo", x.count(5), 0);
        due("2: the text stays", x.count(6), 1);
        due("2: the fraction stays", x.part(0), 3);
        due("2: the fraction stays", x.part(1), 4);
        due("2: status stays", x.status(1), 1);
        due("2: images stay", x.from(0), 1);
        due("2: layers of the image", x.count(0), 3);
    }

    private static void write() {
        ScrapedRoll x = new ScrapedRoll();
        due("3: first", x.write(5, 5, 4, 1), 0);
        due("3: not rubbed", x.write(5, 0, 0, 0), NO);
        for (int i = 1; i <= 3; i++) {
            x.rub(5);
            due("3: over it", x.write(5, 0, 0, 0), i);
        }
        due("3: four, not rubbed", x.write(5, 0, 0, 0), NO);
        x.rub(5);
        due("3: four, rubbed", x.write(5, 0, 0, 0), FULL);
        due("3: BAD ahead of FULL", x.write(5, 6, 0, 0), BAD);
        due("3: cell 6", x.write(6, 0, 0, 0), BAD);
        due("3: kind 6", x.write(0, 6, 0, 0), BAD);
        due("3: thing 5", x.write(0, 0, 5, 0), BAD);
        due("3: lets 2", x.write(0, 0, 0, 2), BAD);
        for (int far : FAR) {
            due("3: cell", x.write(far, 0, 0, 0), BAD);
            due("3: kind", x.write(0, far, 0, 0), BAD);
            due("3: thing", x.write(0, 0, far, 0), BAD);
            due("3: lets", x.write(0, 0, 0, far), BAD);
        }
        due("3: layers of the others", x.layers(0), 0);
    }

    private static void rub() {
        ScrapedRoll x = new ScrapedRoll();
        due("4: none there", x.rub(0), NO);
        x.write(0, 0, 0, 0);
        due("4: at once", x.rub(0), 0);
        due("4: rubbed already", x.rub(0), NO);
        x.years(7);
        x.write(0, 0, 0, 0);
        x.years(30);
        due("4: from when it was written", x.rub(0), 30);
        due("4: rubbed in", x.of(0, 1, 4), 37);
        due("4: cell 6", x.rub(6), BAD);
        for (int far : FAR) {
            due("4: cell", x.rub(far), BAD);
        }
    }

    private static void years() {
        ScrapedRoll x = new ScrapedRoll();
        due("5: one", x.years(1), 1);
        due("5: 99", x.years(99), 100);
        due("5: 0", x.years(0), BAD);
        due("5: 100", x.years(100), BAD);
        for (int far : FAR) {
            due("5: far", x.years(far), BAD);
        }
        for (int k = 0; k < 9; k++) {
            x.years(99);
        }
        due("5: 991", x.count(1), 991);
        due("5: to the last", x.years(8), 999);
        due("5: not behind it", x.years(1), 999);
        due("5: not behind it", x.years(99), 999);
        due("5: undone", x.undo(), 999);
        due("5: undone", x.undo(), 999);
        due("5: undone", x.undo(), 991);
    }

    private static void undo() {
        ScrapedRoll x = new ScrapedRoll();
        due("6: none", x.undo(), NO);
        x.write(0, 3, 2, 1);
        x.years(4);
        x.rub(0);
        due("6: rubbing", x.undo(), 4);
        due("6: it is not rubbed", x.of(0, 0, 4), NONE);
        due("6: years", x.undo(), 0);
        due("6: writing", x.undo(), 0);
        due("6: no layer", x.layers(0), 0);
        due("6: no more", x.undo(), NO);
        for (int k = 1; k <= 8; k++) {
            x.years(1);
        }
        due("6: six at most", x.count(5), 6);
        for (int k = 7; k >= 2; k--) {
            due("6: the last first", x.undo(), k);
        }
        due("6: six at most", x.undo(), NO);
        x.write(0, 0, 0, 0);
        x.seen(0, 0, 3, 1);
        x.rub(4);
        due("6: refused ones are none", x.undo(), 2);
        due("6: what was seen stays", x.count(4), 1);
        due("6: no layer", x.is(0, 0), BAD);
        x.write(0, 0, 0, 0);
        due("6: it is of the layer there", x.is(0, 0), 1 | 4 | 8 | 16);
    }

    private static void typeAndClear() {
        ScrapedRoll x = new ScrapedRoll();
        due("8: empty", x.clear(), 0);
        due("7: 0", x.type(0), 1);
        due("7: 127", x.type(127), 2);
        due("7: 128", x.type(128), BAD);
        for (int far : FAR) {
            due("7: far", x.type(far), BAD);
        }
        for (int k = 3; k <= 150; k++) {
            due("7: more", x.type('x'), k);
        }
        due("7: 151", x.type('x'), FULL);
        due("7: BAD ahead of FULL", x.type(128), BAD);
        due("7: bytes", x.count(6), 150);
        due("8: all", x.clear(), 150);
        due("8: none then", x.count(6), 0);
        due("7: again", x.type('x'), 1);
    }

    private static void layersAndOf() {
        ScrapedRoll x = new ScrapedRoll();
        x.years(3);
        x.write(2, 4, 1, 0);
        x.years(5);
        x.rub(2);
        x.write(2, 5, 3, 1);
        due("10: two", x.layers(2), 2);
        due("10: none", x.layers(3), 0);
        due("10: cell 6", x.layers(6), BAD);
        int[][] want = {{4, 1, 0, 3, 8}, {5, 3, 1, 8, NONE}};
        for (int i = 0; i < 2; i++) {
            for (int what = 0; what <= 4; what++) {
                due("11: of " + i + " " + what, x.of(2, i, what), want[i][what]);
            }
        }
        due("11: no layer", x.of(2, 2, 0), LOW_BAD);
        due("11: no layer", x.of(3, 0, 0), LOW_BAD);
        due("11: layer 4", x.of(2, 4, 0), LOW_BAD);
        due("11: cell 6", x.of(6, 0, 0), LOW_BAD);
        due("11: what 5", x.of(2, 0, 5), LOW_BAD);
        for (int far : FAR) {
            due("10: far", x.layers(far), BAD);
            due("11: cell", x.of(far, 0, 0), LOW_BAD);
            due("11: layer", x.of(2, far, 0), LOW_BAD);
            due("11: what", x.of(2, 0, far), LOW_BAD);
        }
    }

    /** Each cell a kind: written in 10, rubbed in 17 (7 years), covered in 20 for good. */
    private static ScrapedRoll everyKind() {
        ScrapedRoll x = new ScrapedRoll();
        x.years(10);
        for (int c = 0; c < 6; c++) {
            x.write(c, c, 0, 1);
        }
        x.years(7);
        for (int c = 0; c < 6; c++) {
            x.rub(c);
        }
        x.years(3);
        for (int c = 0; c < 6; c++) {
            x.write(c, 0, 1, 0);
        }
        return x;
    }

    private static final int[] OPENS = {10, 17, 10, 10, 10, 17};
    private static final int[] SHUTS = {27, 27, 23, 17, 34, 30};

    private static void bindsByKind() {
        ScrapedRoll x = everyKind();
        for (int c = 0; c < 6; c++) {
            for (int y : new int[] {0, 9, 10, 16, 17, 19, 20, 22, 23, 26, 27, 29, 30, 33, 34, 999}) {
                int want = y >= OPENS[c] && y < SHUTS[c] ? 1 : 0;
                due("12: kind " + c + " in " + y, x.binds(c, 0, y), want);
            }
        }
        due("12: year 1000", x.binds(0, 0, 1000), BAD);
        due("12: no layer", x.binds(0, 2, 0), BAD);
        due("12: cell 6", x.binds(6, 0, 0), BAD);
        for (int far : FAR) {
            due("12: cell", x.binds(far, 0, 0), BAD);
            due("12: layer", x.binds(0, far, 0), BAD);
            due("12: year", x.binds(0, 0, far), BAD);
        }
    }

    private static void bindsByYears() {
        ScrapedRoll x = new ScrapedRoll();
        x.write(0, 0, 0, 1);
        due("12: not rubbed, for ever", x.binds(0, 0, 999), 1);
        x.rub(0);
        due("12: none over it, though it stood for 0", x.binds(0, 0, 999), 1);
        x.years(5);
        x.write(0, 0, 0, 0);
        due("12: ahead of the one over it", x.binds(0, 0, 4), 1);
        due("12: stood as long: both 0", x.binds(0, 0, 5), 0);
        x.years(10);
        x.rub(0);
        x.years(1);
        x.write(0, 0, 0, 0);
        x.years(9);
        x.rub(0);
        due("12: the one over it stood for one year less", x.binds(0, 1, 999), 1);
        x.write(1, 0, 0, 0);
        x.years(6);
        x.rub(1);
        x.write(1, 0, 0, 0);
        x.years(6);
        x.rub(1);
        due("12: the one over it stood just as long", x.binds(1, 0, 36), 1);
        due("12: the one over it stood just as long", x.binds(1, 0, 37), 0);
        due("12: and so for ever", x.binds(1, 0, 999), 0);
        x.write(2, 2, 0, 0);
        x.years(1);
        x.rub(2);
        due("12: a doodle of one year, none over it", x.binds(2, 0, 38), 1);
        x.write(2, 0, 0, 0);
        due("12: half of one year is none", x.binds(2, 0, 38), 0);
        x.write(3, 1, 0, 0);
        due("12: a draft", x.binds(3, 0, 999), 0);
        x.rub(3);
        due("12: a rubbed draft", x.binds(3, 0, 38), 1);
        due("12: ahead of it", x.binds(3, 0, 37), 0);
        x.write(4, 5, 0, 0);
        x.rub(4);
        x.write(4, 0, 0, 0);
        due("12: in the margin 3 years more", x.binds(4, 0, 40), 1);
        due("12: in the margin 3 years more", x.binds(4, 0, 41), 0);
        x.write(5, 3, 0, 0);
        x.rub(5);
        due("12: corrected, rubbed in the year", x.binds(5, 0, 38), 0);
    }

    private static void rule() {
        ScrapedRoll x = new ScrapedRoll();
        x.years(2);
        x.write(0, 0, 4, 1);
        x.write(1, 0, 3, 0);
        x.years(2);
        x.write(2, 0, 4, 0);
        due("13: nothing yet", x.rule(4, 1), 0);
        due("13: let", x.rule(4, 2), 1);
        due("13: let", x.rule(4, 3), 1);
        due("13: both", x.rule(4, 4), 3);
        due("13: both", x.rule(4, 999), 3);
        due("13: forbidden", x.rule(3, 2), 2);
        due("13: another thing", x.rule(0, 2), 0);
        due("13: thing 5", x.rule(5, 0), BAD);
        due("13: year 1000", x.rule(0, 1000), BAD);
        for (int far : FAR) {
            due("13: thing", x.rule(far, 0), BAD);
            due("13: year", x.rule(0, far), BAD);
        }
    }

    private static void ends() {
        ScrapedRoll x = everyKind();
        for (int c = 0; c < 6; c++) {
            due("14: kind " + c, x.ends(c, 0), Math.max(20, SHUTS[c]));
            due("14: over it", x.ends(c, 1), NONE);
        }
        x.years(50);
        due("14: long ago", x.ends(0, 0), 70);
        x.rub(0);
        x.write(0, 1, 0, 0);
        due("14: a draft that is not rubbed", x.ends(0, 2), 70);
        due("14: it stood for 50", x.ends(0, 1), 120);
        for (int k = 0; k < 9; k++) {
            x.years(99);
        }
        x.years(30);
        x.rub(1);
        x.write(1, 0, 0, 0);
        due("14: it will still bind in 999", x.ends(1, 1), NONE);
        x.write(2, 0, 0, 0);
        due("14: no such layer", x.ends(2, 2), BAD);
        due("14: cell 6", x.ends(6, 0), BAD);
        for (int far : FAR) {
            due("14: cell", x.ends(far, 0), BAD);
            due("14: layer", x.ends(0, far), BAD);
        }
        endsAtTheLastYear();
    }

    private static void endsAtTheLastYear() {
        ScrapedRoll x = new ScrapedRoll();
        x.years(99);
        x.write(0, 0, 0, 0);
        x.write(1, 0, 0, 0);
        for (int k = 0; k < 5; k++) {
            x.years(90);
        }
        x.rub(0);
        x.write(0, 0, 0, 0);
        due("14: in 999", x.ends(0, 0), 999);
        x.years(1);
        x.rub(1);
        x.write(1, 0, 0, 0);
        due("14: behind 999", x.ends(1, 0), NONE);
    }

    private static void quarrel() {
        ScrapedRoll x = new ScrapedRoll();
        due("15: none", x.quarrel(0), NONE);
        x.years(5);
        x.write(0, 0, 1, 1);
        x.years(5);
        x.write(1, 1, 1, 0);
        due("15: a draft does not bind", x.quarrel(1), NONE);
        x.years(5);
        x.rub(1);
        due("15: from when it is rubbed", x.quarrel(1), 15);
        due("15: another thing", x.quarrel(0), NONE);
        x.years(5);
        due("15: in years gone by", x.quarrel(1), 15);
        x.undo();
        x.rub(0);
        x.write(0, 3, 1, 0);
        due("15: the first of all", x.quarrel(1), 15);
        x.write(2, 0, 3, 0);
        x.write(3, 0, 3, 1);
        x.undo();
        due("15: undone", x.quarrel(3), NONE);
        due("15: thing 5", x.quarrel(5), BAD);
        for (int far : FAR) {
            due("15: thing", x.quarrel(far), BAD);
        }
        ScrapedRoll z = new ScrapedRoll();
        z.write(0, 0, 0, 1);
        z.write(1, 0, 0, 0);
        due("15: in year 0", z.quarrel(0), 0);
        z.undo();
        z.years(9);
        z.rub(0);
        z.write(0, 3, 2, 1);
        z.years(9);
        z.write(1, 0, 0, 0);
        due("15: the let one ends just then", z.quarrel(0), NONE);
        z.undo();
        z.undo();
        z.years(8);
        z.write(1, 0, 0, 0);
        due("15: a year ahead", z.quarrel(0), 17);
    }

    private static void tear() {
        ScrapedRoll x = new ScrapedRoll();
        x.write(0, 0, 0, 1);
        x.write(1, 0, 0, 1);
        x.write(2, 0, 0, 0);
        x.write(3, 0, 1, 1);
        x.write(4, 0, 1, 0);
        x.write(5, 0, 2, 0);
        due("16: two things quarrel", x.tear(0, NONE), 2);
        int[] want = {0, 0, 1, 1, 0, 0};
        for (int c = 0; c < 6; c++) {
            due("16: cell " + c, x.tear(0, c), want[c]);
        }
        x.years(4);
        x.rub(2);
        x.write(2, 0, 0, 0);
        due("16: as many of each, those that let", x.tear(7, NONE), 3);
        due("16: as many of each, those that let", x.tear(7, 0), 1);
        due("16: as many of each, those that let", x.tear(7, 2), 0);
        due("16: the lower one binds no more", x.tear(8, NONE), 2);
        due("16: the upper one", x.tear(8, 2), 2);
        due("16: year 1000", x.tear(1000, NONE), LOW_BAD);
        due("16: cell 6", x.tear(0, 6), LOW_BAD);
        due("16: cell -2", x.tear(0, -2), LOW_BAD);
        due("16: far", x.tear(0, Integer.MIN_VALUE), LOW_BAD);
        due("16: far", x.tear(0, Integer.MAX_VALUE), LOW_BAD);
        for (int far : FAR) {
            due("16: year", x.tear(far, NONE), LOW_BAD);
        }
        due("16: all are counted as BAD", x.status(0), 8);
    }

    private static void hangs() {
        ScrapedRoll x = new ScrapedRoll();
        x.write(0, 0, 3, 1);
        due("17: alone", x.hangs(0, 0, 0), 8);
        x.years(1);
        x.write(1, 0, 3, 1);
        due("17: ahead of the other", x.hangs(0, 0, 0), 8);
        due("17: another does, too", x.hangs(0, 0, 1), 0);
        x.write(2, 0, 3, 0);
        due("17: of a quarrel", x.hangs(2, 0, 1), 8);
        due("17: it does not bind then", x.hangs(2, 0, 0), 0);
        x.years(5);
        x.rub(2);
        x.write(2, 0, 4, 0);
        due("17: the lower alone is without", x.hangs(2, 1, 6), 16);
        due("17: no layer", x.hangs(2, 2, 0), BAD);
        due("17: year 1000", x.hangs(2, 0, 1000), BAD);
        for (int far : FAR) {
            due("17: cell", x.hangs(far, 0, 0), BAD);
            due("17: layer", x.hangs(0, far, 0), BAD);
            due("17: year", x.hangs(0, 0, far), BAD);
        }
    }

    private static void dueStrokes(ScrapedRoll x, String what, int[] q, int many, int first) {
        long before = x.digest();
        due("18: " + what, x.strokes(q[0], q[1], q[2], 0), many);
        due("18: first, " + what, x.strokes(q[0], q[1], q[2], 1), first);
        due("18: nothing is changed", x.digest(), before);
    }

    private static void strokes() {
        ScrapedRoll x = new ScrapedRoll();
        dueStrokes(x, "an empty skin", new int[] {0, 1, 0}, 1, 10);
        x.write(0, 0, 0, 1);
        dueStrokes(x, "it is so", new int[] {0, 1, 99}, 0, NONE);
        dueStrokes(x, "rub, write over it: 0 is not less than 0", new int[] {0, 2, 0}, 2, 0);
        x.years(3);
        dueStrokes(x, "it stood for 3, by then it still binds", new int[] {0, 2, 2}, NONE, NONE);
        dueStrokes(x, "it binds no more", new int[] {0, 2, 3}, 2, 0);
        x.write(1, 3, 0, 0);
        dueStrokes(x, "one stroke ends the corrected one", new int[] {0, 1, 0}, 1, 1);
        dueStrokes(x, "two strokes leave what is forbidden", new int[] {0, 2, 3}, 2, 0);
        dueStrokes(x, "another thing: the least cell free", new int[] {4, 2, 0}, 1, 12);
        x.write(2, 3, 0, 0);
        dueStrokes(x, "two to be rubbed, rising", new int[] {0, 1, 0}, 2, 1);
        x.write(3, 3, 0, 0);
        dueStrokes(x, "three would be", new int[] {0, 1, 0}, NONE, NONE);
        x.write(4, 1, 1, 1);
        dueStrokes(x, "rubbing a draft makes it law", new int[] {1, 1, 0}, 1, 4);
        wrongStrokes(x);
        ScrapedRoll full = new ScrapedRoll();
        for (int c = 0; c < 6; c++) {
            for (int i = 0; i < 4; i++) {
                full.write(c, 3, 4, 1);
                full.rub(c);
            }
        }
        dueStrokes(full, "no place", new int[] {0, 1, 9}, NONE, NONE);
    }

    private static void wrongStrokes(ScrapedRoll x) {
        due("18: thing 5", x.strokes(5, 1, 0, 0), BAD);
        due("18: law 0", x.strokes(0, 0, 0, 0), BAD);
        due("18: law 3", x.strokes(0, 3, 0, 0), BAD);
        due("18: 100 years", x.strokes(0, 1, 100, 0), BAD);
        due("18: what 2", x.strokes(0, 1, 0, 2), BAD);
        for (int far : FAR) {
            due("18: thing", x.strokes(far, 1, 0, 0), BAD);
            due("18: law", x.strokes(0, far, 0, 0), BAD);
            due("18: years", x.strokes(0, 1, far, 0), BAD);
            due("18: what", x.strokes(0, 1, 0, far), BAD);
        }
    }

    private static void strokesBehindTheLastYear() {
        ScrapedRoll x = new ScrapedRoll();
        for (int k = 0; k < 11; k++) {
            x.years(90);
        }
        x.write(0, 0, 0, 1);
        x.years(9);
        dueStrokes(x, "till 1008", new int[] {0, 2, 8}, NONE, NONE);
        dueStrokes(x, "in 1008", new int[] {0, 2, 9}, 2, 0);
        due("19: till 1008", x.parties(0, 8, 3, 0), 1);
        x.rub(0);
        x.write(0, 3, 1, 1);
        dueStrokes(x, "in 1007 both", new int[] {0, 2, 8}, NONE, NONE);
        dueStrokes(x, "in 1008 it has ended", new int[] {0, 2, 9}, 1, 11);
        due("19: in 1007 it still lets", x.parties(0, 8, 2, 0), 1);
        due("19: in 1008 it has ended", x.parties(0, 9, 1, 1), 0);
    }

    private static void dueParties(ScrapedRoll x, String what, int[] q, int got, int first) {
        long before = x.digest();
        due("19: " + what, x.parties(q[0], q[1], q[2], 0), got);
        due("19: first, " + what, x.parties(q[0], q[1], q[2], 1), first);
        due("19: nothing is changed", x.digest(), before);
    }

    private static void parties() {
        ScrapedRoll x = new ScrapedRoll();
        dueParties(x, "a writes", new int[] {0, 0, 1}, 2, 10);
        dueParties(x, "b writes over another cell", new int[] {0, 0, 2}, 1, 10);
        // a and b write: a quarrel; a can end b's layer by rubbing and not cover it as well
        dueParties(x, "a once more", new int[] {0, 0, 3}, 1, 10);
        ScrapedRoll full = new ScrapedRoll();
        for (int c = 0; c < 6; c++) {
            for (int i = 0; i < 4; i++) {
                full.write(c, 3, 4, 1);
                full.rub(c);
            }
        }
        dueParties(full, "nothing can be done", new int[] {0, 0, 3}, 1, 20);
        ScrapedRoll one = new ScrapedRoll();
        one.write(0, 3, 0, 0);
        for (int c = 1; c < 6; c++) {
            for (int i = 0; i < 4; i++) {
                one.write(c, 3, 4, 1);
                one.rub(c);
            }
        }
        // only cell 0 is left: a rubs its layer (nothing is law), b writes over it (forbidden)
        dueParties(one, "a rubs", new int[] {0, 0, 1}, 1, 0);
        dueParties(one, "a rubs, b writes; else b does nothing", new int[] {0, 0, 2}, 0, 0);
        dueParties(one, "a does nothing, b must not help; a rubs", new int[] {0, 0, 3}, 1, 20);
        ScrapedRoll let = new ScrapedRoll();
        for (int c = 0; c < 6; c++) {
            let.write(c, c == 0 ? 0 : 1, c == 0 ? 0 : 1, 1);
        }
        dueParties(let, "the least stroke by which it is so: it binds though rubbed", new int[] {0, 5, 1}, 2, 0);
        wrongParties(x);
    }

    private static void wrongParties(ScrapedRoll x) {
        due("19: thing 5", x.parties(5, 0, 1, 0), BAD);
        due("19: 100 years", x.parties(0, 100, 1, 0), BAD);
        due("19: no stroke", x.parties(0, 0, 0, 0), BAD);
        due("19: four strokes", x.parties(0, 0, 4, 0), BAD);
        due("19: what 2", x.parties(0, 0, 1, 2), BAD);
        for (int far : FAR) {
            due("19: thing", x.parties(far, 0, 1, 0), BAD);
            due("19: years", x.parties(0, far, 1, 0), BAD);
            due("19: strokes", x.parties(0, 0, far, 0), BAD);
            due("19: what", x.parties(0, 0, 1, far), BAD);
        }
    }

    private static void seenAndForget() {
        ScrapedRoll x = new ScrapedRoll();
        due("21: none", x.forget(), 0);
        x.write(0, 0, 0, 0);
        due("20: no layer", x.seen(0, 1, 0, 0), BAD);
        due("20: no layer", x.seen(1, 0, 0, 0), BAD);
        due("20: year 1000", x.seen(0, 0, 1000, 0), BAD);
        due("20: bound 2", x.seen(0, 0, 0, 2), BAD);
        for (int far : FAR) {
            due("20: cell", x.seen(far, 0, 0, 0), BAD);
            due("20: layer", x.seen(0, far, 0, 0), BAD);
            due("20: year", x.seen(0, 0, far, 0), BAD);
            due("20: bound", x.seen(0, 0, 0, far), BAD);
        }
        for (int k = 1; k <= 6; k++) {
            due("20: one more", x.seen(0, 0, 999, 1), k);
        }
        due("20: a seventh", x.seen(0, 0, 0, 0), FULL);
        due("20: BAD ahead of FULL", x.seen(0, 1, 0, 0), BAD);
        due("21: six", x.forget(), 6);
        due("21: none then", x.count(4), 0);
    }

    private static void is() {
        ScrapedRoll x = everyKind();
        due("22: nothing seen", x.is(0, 0), 63);
        x.seen(0, 0, 16, 1);
        due("22: no draft binds ahead of its being rubbed", x.is(0, 0), 1 | 4 | 8 | 16);
        x.seen(0, 0, 22, 1);
        due("22: not corrected", x.is(0, 0), 1 | 4 | 16);
        x.seen(0, 0, 26, 1);
        due("22: no doodle", x.is(0, 0), 1 | 16);
        due("22: of another layer nothing", x.is(1, 0), 63);
        due("22: of the one over it nothing", x.is(0, 1), 63);
        x.seen(0, 0, 27, 0);
        due("22: plain", x.is(0, 0), 1);
        x.seen(0, 0, 0, 1);
        due("22: no kind", x.is(0, 0), 0);
        x.seen(5, 0, 29, 1);
        due("22: old or in the margin, whatever it is", x.is(5, 0), 16 | 32);
        due("22: no layer", x.is(0, 2), BAD);
        for (int far : FAR) {
            due("22: cell", x.is(far, 0), BAD);
            due("22: layer", x.is(0, far), BAD);
        }
    }

    private static void look() {
        ScrapedRoll x = everyKind();
        // in 20 all but the corrected bind (5); from 23 the doodle does not either (4); from 27 two do (4)
        due("23: in two halves is the least", x.look(0, 0), 23);
        x.seen(0, 0, 16, 1);
        due("23: plain, doodle, corrected, old", x.look(0, 0), 23);
        x.seen(0, 0, 20, 1);
        due("23: plain, doodle, old", x.look(0, 0), 23);
        x.seen(0, 0, 26, 1);
        due("23: plain, old", x.look(0, 0), 27);
        x.seen(0, 0, 27, 1);
        due("23: one kind: the first year", x.look(0, 0), 20);
        x.seen(0, 0, 0, 1);
        due("23: no kind", x.look(0, 0), NONE);
        due("23: no layer", x.look(0, 2), BAD);
        for (int far : FAR) {
            due("23: cell", x.look(far, 0), BAD);
            due("23: layer", x.look(0, far), BAD);
        }
        ScrapedRoll late = new ScrapedRoll();
        late.write(0, 0, 0, 0);
        late.years(99);
        late.rub(0);
        late.write(0, 0, 0, 0);
        late.seen(0, 0, 50, 1);
        late.seen(0, 0, 99, 1);
        late.seen(0, 0, 160, 1);
        due("23: plain, old; they differ in 198, 99 from now", late.look(0, 0), 198);
        ScrapedRoll last = new ScrapedRoll();
        for (int k = 0; k < 10; k++) {
            last.years(95);
        }
        last.write(0, 0, 0, 0);
        due("23: nothing tells them apart: now", last.look(0, 0), 950);
        last.years(29);
        last.rub(0);
        last.write(0, 0, 0, 0);
        last.seen(0, 0, 950, 1);
        last.seen(0, 0, 979, 1);
        due("23: plain, doodle, old: by the doodle's end", last.look(0, 0), 993);
        last.seen(0, 0, 999, 1);
        due("23: plain, old: not behind 999", last.look(0, 0), 979);
        last.years(99);
        due("23: in the last year", last.look(0, 0), 999);
    }

    private static void dueThumbs(ScrapedRoll x, int v, int c, long above, long below) {
        due("24: thumbs", x.thumbs(0, 0, v, c), 1);
        due("24: above, law " + v + ", " + c + " of 4", x.part(0), above);
        due("24: below, law " + v + ", " + c + " of 4", x.part(1), below);
    }

    private static void thumbs() {
        ScrapedRoll x = new ScrapedRoll();
        dueThumbs(x, 0, 0, 1, 1);
        dueThumbs(x, 3, 4, 0, 1);
        x.write(0, 0, 0, 1);
        x.write(1, 0, 0, 1);
        x.write(2, 0, 0, 0);
        x.write(3, 0, 1, 0);
        x.write(4, 1, 0, 0);
        dueThumbs(x, 3, 0, 1, 1);
        dueThumbs(x, 0, 4, 1, 1);
        dueThumbs(x, 0, 1, 1, 64);
        dueThumbs(x, 1, 1, 15, 64);
        dueThumbs(x, 2, 1, 3, 64);
        dueThumbs(x, 3, 1, 45, 64);
        dueThumbs(x, 0, 2, 1, 8);
        dueThumbs(x, 1, 2, 3, 8);
        dueThumbs(x, 1, 3, 21, 64);
        due("24: thing 5", x.thumbs(5, 0, 0, 0), BAD);
        due("24: year 1000", x.thumbs(0, 1000, 0, 0), BAD);
        due("24: law 4", x.thumbs(0, 0, 4, 0), BAD);
        due("24: 5 of 4", x.thumbs(0, 0, 0, 5), BAD);
        for (int far : FAR) {
            due("24: thing", x.thumbs(far, 0, 0, 0), BAD);
            due("24: year", x.thumbs(0, far, 0, 0), BAD);
            due("24: law", x.thumbs(0, 0, far, 0), BAD);
            due("24: of 4", x.thumbs(0, 0, 0, far), BAD);
        }
        due("24: the fraction stays", x.part(0), 21);
        everyLayerBinds();
    }

    private static void everyLayerBinds() {
        ScrapedRoll x = new ScrapedRoll();
        for (int c = 0; c < 6; c++) {
            for (int i = 0; i < 4; i++) {
                // each stands for less long than the one below it did
                x.write(c, 4, 0, c % 2);
                x.years(4 - i);
                x.rub(c);
            }
        }
        due("24: all 24 bind", x.count(2), 24);
        x.thumbs(0, 60, 3, 3);
        long side = 16777216L - 531441L;
        due("24: above of 24 layers", x.part(0), side * side);
        due("24: below of 24 layers", x.part(1), 281474976710656L);
    }

    private static void centuries() {
        ScrapedRoll x = new ScrapedRoll();
        due("25: no time", x.centuries(0, 0), 0);
        due("25: an empty skin", x.centuries(999999, 0), 0);
        x.write(0, 0, 0, 0);
        x.write(1, 0, 0, 1);
        x.seen(0, 0, 0, 1);
        long before = x.digest();
        due("25: as it is now", x.centuries(5, 0), 1);
        for (int seed = 0; seed < 40; seed++) {
            due("25: thirty times", x.centuries(seed * 25000, 30), slowly(seed * 25000L, 30));
        }
        due("25: nothing is changed", x.digest(), before);
        due("25: seed -1", x.centuries(-1, 0), BAD);
        due("25: seed 1000000", x.centuries(1000000, 0), BAD);
        due("25: 31", x.centuries(0, 31), BAD);
        for (int far : FAR) {
            due("25: seed", x.centuries(far, 0), BAD);
            due("25: times", x.centuries(0, far), BAD);
        }
    }

    /** The same centuries by the calls of a second object that begins as the first does above. */
    private static int slowly(long seed, int n) {
        ScrapedRoll x = new ScrapedRoll();
        x.write(0, 0, 0, 0);
        x.write(1, 0, 0, 1);
        long drawn = seed;
        for (int k = 0; k < n; k++) {
            drawn = Math.floorMod(drawn * 1103515245L + 12345L, 1L << 31);
            int high = (int) (drawn >> 16);
            if (x.rub(high % 6) < 0) {
                x.write(high % 6, high % 7 % 6, high % 5, high % 2);
            }
            int pass = (int) (drawn >> 20) % 50;
            if (pass > 0) {
                x.years(pass);
            }
        }
        return x.count(3);
    }

    private static void part() {
        ScrapedRoll x = new ScrapedRoll();
        due("26: what 2", x.part(2), BAD);
        for (int far : FAR) {
            due("26: far", x.part(far), BAD);
        }
        due("26: counted", x.status(0), 4);
    }

    private static void images() {
        ScrapedRoll x = new ScrapedRoll();
        due("28: none kept", x.from(1), NO);
        x.write(0, 0, 0, 1);
        x.years(3);
        x.seen(0, 0, 0, 1);
        x.type('a');
        due("27: kept", x.image(1), 1);
        due("28: the other one is not", x.from(0), NO);
        x.rub(0);
        x.write(0, 2, 1, 0);
        x.forget();
        x.years(9);
        x.type('b');
        x.thumbs(0, 0, 1, 1);
        due("28: goes on", x.from(1), 1);
        due("28: layers", x.layers(0), 1);
        due("28: not rubbed", x.of(0, 0, 4), NONE);
        due("28: year", x.count(1), 3);
        due("28: seen", x.count(4), 1);
        due("28: what may be undone", x.count(5), 2);
        due("28: the text stays", x.count(6), 2);
        due("28: the fraction stays", x.part(0), 3);
        due("28: status stays", x.status(1), 2);
        due("28: undone", x.undo(), 0);
        due("28: undone", x.undo(), 0);
        due("28: undone", x.undo(), NO);
        due("28: the image is as it was", x.from(1), 1);
        due("28: layers", x.layers(0), 1);
        x.roll();
        due("27: over the old one", x.image(1), 1);
        x.write(3, 0, 0, 0);
        due("28: the new one", x.from(1), 1);
        due("28: no layers", x.count(0), 0);
        due("27: 2", x.image(2), BAD);
        due("28: 2", x.from(2), BAD);
        for (int far : FAR) {
            due("27: far", x.image(far), BAD);
            due("28: far", x.from(far), BAD);
        }
    }

    private static void status() {
        ScrapedRoll x = new ScrapedRoll();
        due("29: BAD", x.status(0), 0);
        due("29: NO", x.status(1), 0);
        due("29: FULL", x.status(2), 0);
        x.rub(6);
        x.of(0, 0, 0);
        x.tear(1000, 0);
        due("29: another what", x.status(3), -1);
        due("29: another what", x.status(-1), -1);
        due("29: BAD", x.status(0), 5);
        x.rub(0);
        x.undo();
        due("29: NO", x.status(1), 2);
        x.write(0, 0, 0, 0);
        for (int k = 0; k < 7; k++) {
            x.seen(0, 0, 0, 0);
        }
        due("29: FULL", x.status(2), 1);
        due("29: a fault is none of these", x.read(), -10);
        due("29: NONE is none of these", x.quarrel(0), NONE);
        due("29: NONE is none of these", x.of(0, 0, 4), NONE);
        due("29: BAD", x.status(0), 5);
        due("29: NO", x.status(1), 2);
        due("29: FULL", x.status(2), 1);
    }

    /** Every call that can be refused as BAD is counted when it is, once each. */
    private static void everyBadCallCounts() {
        ScrapedRoll x = new ScrapedRoll();
        x.write(6, 0, 0, 0);
        x.rub(6);
        x.years(0);
        x.type(128);
        x.layers(6);
        x.of(6, 0, 0);
        due("29: a roll", x.status(0), 6);
        x.binds(0, 0, 0);
        x.rule(5, 0);
        x.ends(0, 0);
        x.quarrel(5);
        x.tear(0, 6);
        x.hangs(0, 0, 0);
        x.strokes(5, 1, 0, 0);
        x.parties(5, 0, 1, 0);
        due("29: the law", x.status(0), 14);
        x.seen(0, 0, 0, 0);
        x.is(0, 0);
        x.look(0, 0);
        x.thumbs(5, 0, 0, 0);
        x.centuries(-1, 0);
        due("29: the lamp", x.status(0), 19);
        x.part(2);
        x.image(2);
        x.from(2);
        x.status(3);
        x.count(7);
        due("29: what there is", x.status(0), 24);
        due("29: none was NO", x.status(1), 0);
        due("29: none was FULL", x.status(2), 0);
    }

    private static void everyNoAndFullCounts() {
        ScrapedRoll x = new ScrapedRoll();
        x.rub(0);
        x.undo();
        x.from(0);
        x.write(0, 0, 0, 0);
        x.write(0, 0, 0, 0);
        due("29: NO", x.status(1), 4);
        for (int i = 0; i < 3; i++) {
            x.rub(0);
            x.write(0, 0, 0, 0);
        }
        x.rub(0);
        x.write(0, 0, 0, 0);
        due("29: FULL, four layers", x.status(2), 1);
        for (int k = 0; k <= 150; k++) {
            x.type(' ');
        }
        due("29: FULL, 150 bytes", x.status(2), 2);
        for (int k = 0; k <= 6; k++) {
            x.seen(0, 3, 0, 0);
        }
        due("29: FULL, six seen", x.status(2), 3);
        due("29: none was BAD", x.status(0), 0);
    }

    private static void count() {
        ScrapedRoll x = everyKind();
        x.type('x');
        x.seen(0, 0, 0, 0);
        x.write(0, 0, 0, 0);
        due("30: layers", x.count(0), 12);
        due("30: year", x.count(1), 20);
        due("30: those that bind", x.count(2), 11);
        due("30: no quarrels", x.count(3), 0);
        due("30: seen", x.count(4), 1);
        due("30: may be undone", x.count(5), 6);
        due("30: bytes", x.count(6), 1);
        x.rub(0);
        x.write(0, 0, 0, 0);
        due("30: a quarrel", x.count(3), 1);
        due("30: 7", x.count(7), BAD);
        for (int far : FAR) {
            due("30: far", x.count(far), BAD);
        }
    }

    private static long mixed(long... values) {
        long h = 1163;
        for (long v : values) {
            h = 31 * h + v;
        }
        return h;
    }

    private static void digest() {
        ScrapedRoll x = new ScrapedRoll();
        due("31: at first", x.digest(), mixed(0, 0, 0, 0, 0, 0, 0, 0, 0, 0, 0, 0, 0, 0, 1));
        x.write(1, 5, 4, 1);
        x.years(2);
        x.rub(1);
        x.write(1, 0, 4, 0);
        x.write(4, 3, 2, 0);
        x.seen(1, 0, 7, 1);
        x.seen(4, 0, 8, 0);
        x.type('r');
        x.thumbs(4, 2, 1, 1);
        due("31: with all", x.digest(), mixed(3, 2, 3, 1, 2, 5, 1,
            0, 2, 5, 4, 1, 0, 2, 0, 4, 0, 2, -1, 0, 0, 1, 3, 2, 0, 2, -1, 0,
            1, 0, 7, 1, 4, 0, 8, 0, 3, 16));
    }

    private static void refusedCallsChangeNothing() {
        ScrapedRoll x = everyKind();
        x.thumbs(0, 20, 1, 1);
        long before = x.digest();
        x.write(0, 0, 0, 0);
        x.write(0, 0, 0, 7);
        x.rub(9);
        x.years(0);
        x.type(200);
        x.read();
        x.seen(0, 3, 0, 0);
        x.thumbs(0, 0, 0, 9);
        x.from(0);
        x.image(4);
        due("refused calls", x.digest(), before);
    }
}
