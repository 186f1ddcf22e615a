import java.math.BigInteger;
import java.util.ArrayDeque;
import java.util.ArrayList;
import java.util.Arrays;
import java.util.Deque;
import java.util.List;
import java.util.Random;
import java.util.regex.Matcher;
import java.util.regex.Pattern;

/**
 * Drawn runs of calls, each answered by the class and by a slow telling of the document that goes
 * year by year, copies whole rolls and tries every way. Seeds are fixed: each run is the same.
 */
public final class OracleTest {
    private static final int RUNS = 1500, CALLS = 300;
    private static int wrong = 0;

    public static void main(String[] args) {
        for (int run = 0; run < RUNS && wrong < 20; run++) {
            drawnRun(run);
        }
        System.out.println(wrong == 0 ? "all drawn runs agree" : wrong + " drawn answers differ");
        if (wrong != 0) {
            System.exit(1);
        }
    }

    private static void drawnRun(int seed) {
        Random random = new Random(seed);
        ScrapedRoll x = new ScrapedRoll();
        Oracle o = new Oracle();
        List<String> told = new ArrayList<>();
        Deque<int[]> due = new ArrayDeque<>();
        for (int k = 0; k < CALLS; k++) {
            if (due.isEmpty()) {
                drawNext(random, o, seed, due);
            }
            int[] next = due.removeFirst();
            int call = next[0];
            int[] a = Arrays.copyOfRange(next, 1, next.length);
            long got = answer(x, call, a);
            long right = o.answer(call, a);
            told.add(NAMES[call] + Arrays.toString(a) + " = " + got);
            if (got != right || x.digest() != o.digest()) {
                wrong++;
                System.out.println("run " + seed + ": " + told + ", due is " + right);
                return;
            }
        }
    }

    /** One call, or all the calls that type a text and read it. */
    private static void drawNext(Random random, Oracle o, int seed, Deque<int[]> due) {
        int call = drawCall(random, seed % 3);
        if (NAMES[call].equals("read") && random.nextInt(4) != 0) {
            due.add(new int[] {6});
            for (char b : drawText(random).toCharArray()) {
                due.add(new int[] {5, b});
            }
            due.add(new int[] {7});
            return;
        }
        int[] a = drawArguments(random, call, o);
        int[] both = new int[a.length + 1];
        both[0] = call;
        System.arraycopy(a, 0, both, 1, a.length);
        due.add(both);
    }

    private static final String[] NAMES = {"roll", "write", "rub", "years", "undo", "type", "clear", "read",
        "layers", "of", "binds", "rule", "ends", "quarrel", "tear", "hangs", "strokes", "parties", "seen",
        "forget", "is", "look", "thumbs", "centuries", "part", "image", "from", "status", "count"};

    /** Much writing, rubbing and years in two runs of three, so that rolls grow; few calls that wipe. */
    private static int drawCall(Random random, int sort) {
        if (random.nextInt(100) < (sort == 0 ? 20 : 60)) {
            return 1 + random.nextInt(3);
        }
        int call = random.nextInt(NAMES.length);
        boolean wipes = List.of("roll", "read", "from", "undo").contains(NAMES[call]);
        return wipes && random.nextInt(sort == 0 ? 2 : 8) != 0 ? 8 + random.nextInt(10) : call;
    }

    private static int draw(Random random, int least, int most) {
        int d = random.nextInt(40);
        if (d == 0) {
            return most + 1;
        }
        if (d == 1) {
            return least - 1;
        }
        if (d == 2) {
            int[] far = {Integer.MIN_VALUE, Integer.MAX_VALUE, -7, 1234567};
            return far[random.nextInt(far.length)];
        }
        return least + random.nextInt(most - least + 1);
    }

    private static int drawYear(Random random, Oracle o) {
        if (random.nextInt(3) == 0) {
            return draw(random, 0, 999);
        }
        return Math.min(999, Math.max(0, o.now.year + random.nextInt(61) - 30));
    }

    private static int drawLayer(Random random, Oracle o, int c) {
        int height = c >= 0 && c < 6 ? o.now.cells.get(c).size() : 1;
        return random.nextInt(20) == 0 ? draw(random, 0, 3) : random.nextInt(Math.max(1, height));
    }

    /** Some cells are used more than others, and rubbing looks for one that can be rubbed. */
    private static int drawCell(Random random, Oracle o, String name) {
        int c = random.nextBoolean() ? draw(random, 0, 5) : draw(random, 0, 2);
        for (int k = 0; k < 6 && c >= 0 && c < 6; k++) {
            boolean apt = name.equals("rub") ? o.now.rubbable(c)
                : name.equals("write") ? o.now.writable(c) : !o.now.cells.get(c).isEmpty();
            if (apt || random.nextInt(6) == 0) {
                return c;
            }
            c = (c + 1) % 6;
        }
        return c;
    }

    private static int[] drawArguments(Random random, int call, Oracle o) {
        int c = drawCell(random, o, NAMES[call]);
        int i = drawLayer(random, o, c);
        int y = drawYear(random, o);
        int thing = random.nextInt(3) == 0 ? draw(random, 0, 4) : draw(random, 0, 1);
        switch (NAMES[call]) {
            case "write": return new int[] {c, draw(random, 0, 5), thing, draw(random, 0, 1)};
            case "rub": case "layers": return new int[] {c};
            case "years": return new int[] {random.nextInt(6) == 0 ? draw(random, 1, 99) : draw(random, 1, 9)};
            case "type": return new int[] {draw(random, 0, 127)};
            case "of": return new int[] {c, i, draw(random, 0, 4)};
            case "binds": case "hangs": return new int[] {c, i, y};
            case "rule": return new int[] {thing, y};
            case "ends": case "is": case "look": return new int[] {c, i};
            case "quarrel": return new int[] {thing};
            case "tear": return new int[] {y, draw(random, -1, 5)};
            case "strokes": return new int[] {thing, draw(random, 1, 2), drawSpan(random), draw(random, 0, 1)};
            case "parties": return new int[] {thing, drawSpan(random), draw(random, 1, 3), draw(random, 0, 1)};
            case "seen": return new int[] {c, i, y, draw(random, 0, 1)};
            case "thumbs": return new int[] {thing, y, draw(random, 0, 3), draw(random, 0, 4)};
            case "centuries": return new int[] {draw(random, 0, 999999), draw(random, 0, 30)};
            case "part": case "image": case "from": return new int[] {draw(random, 0, 1)};
            case "status": return new int[] {draw(random, 0, 2)};
            case "count": return new int[] {draw(random, 0, 6)};
            default: return new int[0];
        }
    }

    private static int drawSpan(Random random) {
        return random.nextBoolean() ? draw(random, 0, 99) : draw(random, 0, 12);
    }

    private static String drawText(Random random) {
        StringBuilder b = new StringBuilder(random.nextInt(15) == 0 ? "" : "roll;");
        int items = random.nextInt(14);
        boolean[] open = new boolean[6];
        for (int k = 0; k < items; k++) {
            int c = random.nextInt(random.nextInt(20) == 0 ? 8 : 6);
            int d = random.nextInt(10);
            if (d < 3) {
                b.append(random.nextBoolean() ? "years " : "years").append(random.nextInt(30) == 0 ? 0 : 1 + random.nextInt(99));
            } else if (c < 6 && open[c] != (random.nextInt(20) == 0)) {
                b.append("rub ").append(random.nextInt(6) == 0 ? "0" : "").append(c);
                open[c] = false;
            } else {
                b.append("write ").append(c).append(' ').append(random.nextInt(random.nextInt(20) == 0 ? 9 : 6));
                b.append(random.nextInt(5) == 0 ? "  " : " ").append(random.nextInt(5)).append(' ').append(random.nextInt(2));
                if (c < 6) {
                    open[c] = true;
                }
            }
            b.append(random.nextInt(6) == 0 ? " ; " : ";");
        }
        if (random.nextInt(3) == 0 && b.length() > 0) {
            int at = random.nextInt(b.length());
            switch (random.nextInt(3)) {
                case 0: b.setLength(at); break;
                case 1: b.deleteCharAt(at); break;
                default: b.setCharAt(at, "roluwite ;;0129-A".charAt(random.nextInt(17))); break;
            }
        }
        return b.toString();
    }

    private static long answer(ScrapedRoll x, int call, int[] a) {
        switch (NAMES[call]) {
            case "roll": return x.roll();
            case "write": return x.write(a[0], a[1], a[2], a[3]);
            case "rub": return x.rub(a[0]);
            case "years": return x.years(a[0]);
            case "undo": return x.undo();
            case "type": return x.type(a[0]);
            case "clear": return x.clear();
            case "read": return x.read();
            case "layers": return x.layers(a[0]);
            case "of": return x.of(a[0], a[1], a[2]);
            case "binds": return x.binds(a[0], a[1], a[2]);
            case "rule": return x.rule(a[0], a[1]);
            case "ends": return x.ends(a[0], a[1]);
            case "quarrel": return x.quarrel(a[0]);
            case "tear": return x.tear(a[0], a[1]);
            case "hangs": return x.hangs(a[0], a[1], a[2]);
            case "strokes": return x.strokes(a[0], a[1], a[2], a[3]);
            case "parties": return x.parties(a[0], a[1], a[2], a[3]);
            case "seen": return x.seen(a[0], a[1], a[2], a[3]);
            case "forget": return x.forget();
            case "is": return x.is(a[0], a[1]);
            case "look": return x.look(a[0], a[1]);
            case "thumbs": return x.thumbs(a[0], a[1], a[2], a[3]);
            case "centuries": return x.centuries(a[0], a[1]);
            case "part": return x.part(a[0]);
            case "image": return x.image(a[0]);
            case "from": return x.from(a[0]);
            case "status": return x.status(a[0]);
            default: return x.count(a[0]);
        }
    }

    private static final class Layer {
        int kind, thing, lets, written, rubbed = -1;

        Layer copy() {
            Layer l = new Layer();
            l.kind = kind;
            l.thing = thing;
            l.lets = lets;
            l.written = written;
            l.rubbed = rubbed;
            return l;
        }

        boolean rubbedBy(int y) {
            return rubbed != -1 && rubbed <= y;
        }
    }

    private static final class Cells {
        final List<List<Layer>> cells = new ArrayList<>();
        int year = 0;

        Cells() {
            for (int c = 0; c < 6; c++) {
                cells.add(new ArrayList<>());
            }
        }

        Cells copy() {
            Cells other = new Cells();
            other.year = year;
            for (int c = 0; c < 6; c++) {
                for (Layer l : cells.get(c)) {
                    other.cells.get(c).add(l.copy());
                }
            }
            return other;
        }

        Layer top(int c) {
            List<Layer> cell = cells.get(c);
            return cell.isEmpty() ? null : cell.get(cell.size() - 1);
        }

        boolean rubbable(int c) {
            return top(c) != null && top(c).rubbed == -1;
        }

        boolean writable(int c) {
            return !rubbable(c) && cells.get(c).size() < 4;
        }

        void put(int c, int kind, int thing, int lets) {
            Layer l = new Layer();
            l.kind = kind;
            l.thing = thing;
            l.lets = lets;
            l.written = year;
            cells.get(c).add(l);
        }

        void pass(int n) {
            for (int k = 0; k < n; k++) {
                year = year == 999 ? 999 : year + 1;
            }
        }

        /** Minus one: the one over it did not stand at all. */
        int overStood(int c, int i, int y) {
            List<Layer> cell = cells.get(c);
            if (i + 1 >= cell.size() || cell.get(i + 1).written > y) {
                return -1;
            }
            Layer over = cell.get(i + 1);
            int till = over.rubbed != -1 && over.rubbed < y ? over.rubbed : y;
            return till - over.written;
        }

        boolean binding(int kind, int c, int i, int y) {
            Layer l = cells.get(c).get(i);
            if (y < l.written) {
                return false;
            }
            boolean rubbed = l.rubbedBy(y);
            int stood = l.rubbed - l.written;
            switch (kind) {
                case 0: return !rubbed || overStood(c, i, y) < stood;
                case 1: return rubbed && overStood(c, i, y) < stood;
                case 2: return !rubbed || overStood(c, i, y) < stood / 2;
                case 3: return !rubbed;
                case 4: return !rubbed || overStood(c, i, y) < 2 * stood;
                default: return rubbed && overStood(c, i, y) < stood + 3;
            }
        }

        boolean binding(int c, int i, int y) {
            return binding(cells.get(c).get(i).kind, c, i, y);
        }

        /** All layers that bind in y but those marked out. */
        int law(int thing, int y, boolean[][] out) {
            int law = 0;
            for (int c = 0; c < 6; c++) {
                for (int i = 0; i < cells.get(c).size(); i++) {
                    Layer l = cells.get(c).get(i);
                    if (l.thing == thing && binding(c, i, y) && (out == null || !out[c][i])) {
                        law |= l.lets == 1 ? 1 : 2;
                    }
                }
            }
            return law;
        }

        int quarrels(int y) {
            int n = 0;
            for (int t = 0; t < 5; t++) {
                n += law(t, y, null) == 3 ? 1 : 0;
            }
            return n;
        }

        Cells after(int stroke, int thing, int lets) {
            int c = stroke % 10;
            if (stroke == 20) {
                return copy();
            }
            if (c > 5 || (stroke < 10 ? !rubbable(c) : !writable(c))) {
                return null;
            }
            Cells next = copy();
            if (stroke < 10) {
                next.top(c).rubbed = year;
            } else {
                next.put(c, 0, thing, lets);
            }
            return next;
        }
    }

    private static final class Oracle {
        Cells now = new Cells();
        List<Cells> before = new ArrayList<>();
        List<int[]> seen = new ArrayList<>();
        String text = "";
        BigInteger above = BigInteger.ZERO, below = BigInteger.ONE;
        final int[] refused = new int[3];
        final Cells[] imageNow = new Cells[2];
        final List<List<Cells>> imageBefore = new ArrayList<>(Arrays.asList(null, null));
        final List<List<int[]>> imageSeen = new ArrayList<>(Arrays.asList(null, null));

        int bad(int answer) {
            refused[0]++;
            return answer;
        }

        int no() {
            refused[1]++;
            return -3;
        }

        int full() {
            refused[2]++;
            return -4;
        }

        boolean in(int n, int least, int most) {
            return n >= least && n <= most;
        }

        boolean layer(int c, int i) {
            return in(c, 0, 5) && in(i, 0, now.cells.get(c).size() - 1);
        }

        void keep() {
            before.add(now.copy());
            if (before.size() > 6) {
                before.remove(0);
            }
        }

        long answer(int call, int[] a) {
            switch (NAMES[call]) {
                case "roll": {
                    int n = (int) how(0);
                    now = new Cells();
                    before = new ArrayList<>();
                    seen = new ArrayList<>();
                    return n;
                }
                case "write": return write(a[0], a[1], a[2], a[3]);
                case "rub": {
                    if (!in(a[0], 0, 5)) {
                        return bad(-2);
                    }
                    if (!now.rubbable(a[0])) {
                        return no();
                    }
                    keep();
                    now.top(a[0]).rubbed = now.year;
                    return now.year - now.top(a[0]).written;
                }
                case "years": {
                    if (!in(a[0], 1, 99)) {
                        return bad(-2);
                    }
                    keep();
                    now.pass(a[0]);
                    return now.year;
                }
                case "undo": {
                    if (before.isEmpty()) {
                        return no();
                    }
                    now = before.remove(before.size() - 1);
                    return now.year;
                }
                case "type": {
                    if (!in(a[0], 0, 127)) {
                        return bad(-2);
                    }
                    if (text.length() == 150) {
                        return full();
                    }
                    text += (char) a[0];
                    return text.length();
                }
                case "clear": {
                    int n = text.length();
                    text = "";
                    return n;
                }
                case "read": return read();
                case "layers": return in(a[0], 0, 5) ? now.cells.get(a[0]).size() : bad(-2);
                case "of": {
                    if (!layer(a[0], a[1]) || !in(a[2], 0, 4)) {
                        return bad(-10);
                    }
                    Layer l = now.cells.get(a[0]).get(a[1]);
                    return new int[] {l.kind, l.thing, l.lets, l.written, l.rubbed}[a[2]];
                }
                case "binds": return !layer(a[0], a[1]) || !in(a[2], 0, 999) ? bad(-2) : now.binding(a[0], a[1], a[2]) ? 1 : 0;
                case "rule": return !in(a[0], 0, 4) || !in(a[1], 0, 999) ? bad(-2) : now.law(a[0], a[1], null);
                case "ends": return ends(a[0], a[1]);
                case "quarrel": {
                    if (!in(a[0], 0, 4)) {
                        return bad(-2);
                    }
                    for (int y = 0; y <= 999; y++) {
                        if (now.law(a[0], y, null) == 3) {
                            return y;
                        }
                    }
                    return -1;
                }
                case "tear": return tear(a[0], a[1]);
                case "hangs": {
                    if (!layer(a[0], a[1]) || !in(a[2], 0, 999)) {
                        return bad(-2);
                    }
                    boolean[][] out = new boolean[6][4];
                    out[a[0]][a[1]] = true;
                    int bits = 0;
                    for (int t = 0; t < 5; t++) {
                        bits |= now.law(t, a[2], null) != now.law(t, a[2], out) ? 1 << t : 0;
                    }
                    return bits;
                }
                case "strokes": return strokes(a[0], a[1], a[2], a[3]);
                case "parties": return parties(a[0], a[1], a[2], a[3]);
                case "seen": {
                    if (!layer(a[0], a[1]) || !in(a[2], 0, 999) || !in(a[3], 0, 1)) {
                        return bad(-2);
                    }
                    if (seen.size() == 6) {
                        return full();
                    }
                    seen.add(a.clone());
                    return seen.size();
                }
                case "forget": {
                    int n = seen.size();
                    seen = new ArrayList<>();
                    return n;
                }
                case "is": return layer(a[0], a[1]) ? kinds(a[0], a[1]) : bad(-2);
                case "look": return look(a[0], a[1]);
                case "thumbs": return thumbs(a[0], a[1], a[2], a[3]);
                case "centuries": return centuries(a[0], a[1]);
                case "part": return !in(a[0], 0, 1) ? bad(-2) : (a[0] == 0 ? above : below).longValueExact();
                case "image": {
                    if (!in(a[0], 0, 1)) {
                        return bad(-2);
                    }
                    imageNow[a[0]] = now.copy();
                    imageBefore.set(a[0], copies(before));
                    imageSeen.set(a[0], new ArrayList<>(seen));
                    return 1;
                }
                case "from": {
                    if (!in(a[0], 0, 1)) {
                        return bad(-2);
                    }
                    if (imageNow[a[0]] == null) {
                        return no();
                    }
                    now = imageNow[a[0]].copy();
                    before = copies(imageBefore.get(a[0]));
                    seen = new ArrayList<>(imageSeen.get(a[0]));
                    return 1;
                }
                case "status": return in(a[0], 0, 2) ? refused[a[0]] : bad(-1);
                default: return in(a[0], 0, 6) ? how(a[0]) : bad(-2);
            }
        }

        List<Cells> copies(List<Cells> rolls) {
            List<Cells> all = new ArrayList<>();
            for (Cells roll : rolls) {
                all.add(roll.copy());
            }
            return all;
        }

        int write(int c, int kind, int thing, int lets) {
            if (!in(c, 0, 5) || !in(kind, 0, 5) || !in(thing, 0, 4) || !in(lets, 0, 1)) {
                return bad(-2);
            }
            if (now.rubbable(c)) {
                return no();
            }
            if (now.cells.get(c).size() == 4) {
                return full();
            }
            keep();
            now.put(c, kind, thing, lets);
            return now.cells.get(c).size() - 1;
        }

        static final Pattern TOKEN = Pattern.compile(" *([a-z]+|[0-9]+|[^ ])");

        /** All tokens first (place, token), then item by item; what is missing has the text's length. */
        int read() {
            List<String> tokens = new ArrayList<>();
            List<Integer> places = new ArrayList<>();
            Matcher m = Pattern.compile(TOKEN.pattern(), Pattern.DOTALL).matcher(text);
            int from = 0;
            while (m.find(from)) {
                tokens.add(m.group(1));
                places.add(m.start(1));
                from = m.end();
            }
            Cells r = new Cells();
            int items = 0;
            int at = 0;
            while (at < tokens.size() || items == 0) {
                List<String> shape = shapeAt(tokens, at, items);
                int[] n = new int[shape.size()];
                for (int k = 0; k < shape.size(); k++, at++) {
                    if (at >= tokens.size()) {
                        return -10 - text.length();
                    }
                    if (!fits(shape.get(k), tokens.get(at), r)) {
                        return -10 - places.get(at);
                    }
                    n[k] = tokens.get(at).matches("[0-9]+") ? Integer.parseInt(tokens.get(at)) : 0;
                }
                switch (shape.get(0)) {
                    case "write": r.put(n[1], n[2], n[3], n[4]); break;
                    case "rub": r.top(n[1]).rubbed = r.year; break;
                    case "years": r.pass(n[1]); break;
                    default: break;
                }
                items++;
            }
            now = r;
            before = new ArrayList<>();
            seen = new ArrayList<>();
            return items;
        }

        List<String> shapeAt(List<String> tokens, int at, int items) {
            String word = at < tokens.size() ? tokens.get(at) : "";
            if (items == 0) {
                return List.of("roll", ";");
            }
            switch (word) {
                case "write": return List.of("write", "over", "0-5", "0-4", "0-1", ";");
                case "rub": return List.of("rub", "off", ";");
                case "years": return List.of("years", "1-99", ";");
                default: return List.of("any of these");
            }
        }

        boolean fits(String due, String token, Cells r) {
            boolean number = token.matches("[0-9]{1,2}");
            if (due.equals("over")) {
                return number && Integer.parseInt(token) <= 5 && r.writable(Integer.parseInt(token));
            }
            if (due.equals("off")) {
                return number && Integer.parseInt(token) <= 5 && r.rubbable(Integer.parseInt(token));
            }
            if (due.contains("-")) {
                String[] ends = due.split("-");
                return number && in(Integer.parseInt(token), Integer.parseInt(ends[0]), Integer.parseInt(ends[1]));
            }
            return token.equals(due);
        }

        int ends(int c, int i) {
            if (!layer(c, i)) {
                return bad(-2);
            }
            if (now.binding(c, i, 999)) {
                return -1;
            }
            for (int y = now.year; y <= 999; y++) {
                boolean later = false;
                for (int z = y; z <= 999; z++) {
                    later |= now.binding(c, i, z);
                }
                if (!later) {
                    return y;
                }
            }
            throw new IllegalStateException("binds in 999");
        }

        /** The number by every subset where these are few enough, the bits by the told choice. */
        int tear(int y, int c) {
            if (!in(y, 0, 999) || !in(c, -1, 5)) {
                return bad(-10);
            }
            boolean[][] out = new boolean[6][4];
            int n = 0;
            List<int[]> bound = new ArrayList<>();
            for (int t = 0; t < 5; t++) {
                List<int[]> let = new ArrayList<>();
                List<int[]> forbid = new ArrayList<>();
                for (int d = 0; d < 6; d++) {
                    for (int i = 0; i < now.cells.get(d).size(); i++) {
                        Layer l = now.cells.get(d).get(i);
                        if (l.thing == t && now.binding(d, i, y)) {
                            (l.lets == 1 ? let : forbid).add(new int[] {d, i});
                            bound.add(new int[] {d, i});
                        }
                    }
                }
                if (now.law(t, y, null) == 3) {
                    List<int[]> torn = forbid.size() < let.size() ? forbid : let;
                    n += torn.size();
                    for (int[] l : torn) {
                        out[l[0]][l[1]] = true;
                    }
                }
            }
            if (bound.size() <= 8 && fewest(bound, y) != n) {
                throw new IllegalStateException("the oracle's own choice is not the fewest");
            }
            if (c == -1) {
                return n;
            }
            int bits = 0;
            for (int i = 0; i < 4; i++) {
                bits |= out[c][i] ? 1 << i : 0;
            }
            return bits;
        }

        int fewest(List<int[]> bound, int y) {
            int least = bound.size();
            for (int set = 0; set < 1 << bound.size(); set++) {
                boolean[][] out = new boolean[6][4];
                for (int k = 0; k < bound.size(); k++) {
                    out[bound.get(k)[0]][bound.get(k)[1]] = (set >> k & 1) == 1;
                }
                boolean quiet = true;
                for (int t = 0; t < 5; t++) {
                    quiet &= now.law(t, y, out) != 3;
                }
                least = quiet ? Math.min(least, Integer.bitCount(set)) : least;
            }
            return least;
        }

        int strokes(int thing, int v, int y, int what) {
            if (!in(thing, 0, 4) || !in(v, 1, 2) || !in(y, 0, 99) || !in(what, 0, 1)) {
                return bad(-2);
            }
            int then = now.year + y;
            if (now.law(thing, then, null) == v) {
                return what == 0 ? 0 : -1;
            }
            for (int a = 0; a < 20; a++) {
                Cells one = now.after(a, thing, 2 - v);
                if (one != null && one.law(thing, then, null) == v) {
                    return what == 0 ? 1 : a;
                }
            }
            for (int a = 0; a < 20; a++) {
                for (int b = 0; b < 20; b++) {
                    Cells one = now.after(a, thing, 2 - v);
                    Cells two = one == null ? null : one.after(b, thing, 2 - v);
                    if (two != null && two.law(thing, then, null) == v) {
                        return what == 0 ? 2 : a;
                    }
                }
            }
            return -1;
        }

        int parties(int thing, int y, int n, int what) {
            if (!in(thing, 0, 4) || !in(y, 0, 99) || !in(n, 1, 3) || !in(what, 0, 1)) {
                return bad(-2);
            }
            int best = value(now, thing, now.year + y, n, true);
            if (what == 0) {
                return best;
            }
            for (int a = 0; a <= 20; a++) {
                Cells one = now.after(a, thing, 1);
                if (one != null && value(one, thing, now.year + y, n - 1, false) == best) {
                    return a;
                }
            }
            throw new IllegalStateException("no first stroke");
        }

        int value(Cells cells, int thing, int then, int n, boolean turnOfA) {
            if (n == 0) {
                int law = cells.law(thing, then, null);
                return law == 1 ? 2 : law == 2 ? 0 : 1;
            }
            int best = turnOfA ? -1 : 3;
            for (int s = 0; s <= 20; s++) {
                Cells next = cells.after(s, thing, turnOfA ? 1 : 0);
                if (next != null) {
                    int v = value(next, thing, then, n - 1, !turnOfA);
                    best = turnOfA ? Math.max(best, v) : Math.min(best, v);
                }
            }
            return best;
        }

        int kinds(int c, int i) {
            int bits = 0;
            for (int k = 0; k < 6; k++) {
                boolean all = true;
                for (int[] s : seen) {
                    if (s[0] == c && s[1] == i) {
                        all &= now.binding(k, c, i, s[2]) == (s[3] == 1);
                    }
                }
                bits |= all ? 1 << k : 0;
            }
            return bits;
        }

        int look(int c, int i) {
            if (!layer(c, i)) {
                return bad(-2);
            }
            int kinds = kinds(c, i);
            int least = 7;
            int year = -1;
            for (int y = now.year; kinds != 0 && y <= Math.min(999, now.year + 99); y++) {
                int[] parts = new int[2];
                for (int k = 0; k < 6; k++) {
                    if ((kinds & 1 << k) != 0) {
                        parts[now.binding(k, c, i, y) ? 1 : 0]++;
                    }
                }
                int greater = Math.max(parts[0], parts[1]);
                if (greater < least) {
                    least = greater;
                    year = y;
                }
            }
            return year;
        }

        /** Layer by layer: how many of the 4 ** n ways lead to each law. */
        int thumbs(int thing, int y, int v, int c) {
            if (!in(thing, 0, 4) || !in(y, 0, 999) || !in(v, 0, 3) || !in(c, 0, 4)) {
                return bad(-2);
            }
            BigInteger[] ways = {BigInteger.ONE, BigInteger.ZERO, BigInteger.ZERO, BigInteger.ZERO};
            BigInteger all = BigInteger.ONE;
            for (int d = 0; d < 6; d++) {
                for (int i = 0; i < now.cells.get(d).size(); i++) {
                    Layer l = now.cells.get(d).get(i);
                    if (l.thing != thing || !now.binding(d, i, y)) {
                        continue;
                    }
                    BigInteger[] next = new BigInteger[4];
                    Arrays.fill(next, BigInteger.ZERO);
                    for (int law = 0; law < 4; law++) {
                        int with = law | (l.lets == 1 ? 1 : 2);
                        next[law] = next[law].add(ways[law].multiply(BigInteger.valueOf(c)));
                        next[with] = next[with].add(ways[law].multiply(BigInteger.valueOf(4 - c)));
                    }
                    ways = next;
                    all = all.multiply(BigInteger.valueOf(4));
                }
            }
            BigInteger g = ways[v].gcd(all);
            above = ways[v].divide(g);
            below = all.divide(g);
            return 1;
        }

        int centuries(int seed, int n) {
            if (!in(seed, 0, 999999) || !in(n, 0, 30)) {
                return bad(-2);
            }
            Cells r = now.copy();
            BigInteger x = BigInteger.valueOf(seed);
            for (int k = 0; k < n; k++) {
                x = x.multiply(BigInteger.valueOf(1103515245)).add(BigInteger.valueOf(12345)).mod(BigInteger.ONE.shiftLeft(31));
                int high = x.shiftRight(16).intValueExact();
                int c = high % 6;
                if (r.rubbable(c)) {
                    r.top(c).rubbed = r.year;
                } else if (r.writable(c)) {
                    r.put(c, new int[] {0, 1, 2, 3, 4, 5, 0}[high % 7], high % 5, high % 2);
                }
                r.pass(x.shiftRight(20).intValueExact() % 50);
            }
            return r.quarrels(r.year);
        }

        long how(int what) {
            int layers = 0;
            int bound = 0;
            for (int c = 0; c < 6; c++) {
                for (int i = 0; i < now.cells.get(c).size(); i++) {
                    layers++;
                    bound += now.binding(c, i, now.year) ? 1 : 0;
                }
            }
            return new int[] {layers, now.year, bound, now.quarrels(now.year), seen.size(), before.size(), text.length()}[what];
        }

        long digest() {
            List<Long> all = new ArrayList<>();
            for (int what = 0; what < 7; what++) {
                all.add(how(what));
            }
            for (List<Layer> cell : now.cells) {
                all.add((long) cell.size());
                for (Layer l : cell) {
                    all.addAll(List.of((long) l.kind, (long) l.thing, (long) l.lets, (long) l.written, (long) l.rubbed));
                }
            }
            for (int[] s : seen) {
                all.addAll(List.of((long) s[0], (long) s[1], (long) s[2], (long) s[3]));
            }
            all.add(above.longValueExact());
            all.add(below.longValueExact());
            long h = 1163;
            for (long v : all) {
                h = 31 * h + v;
            }
            return h;
        }
    }
}
