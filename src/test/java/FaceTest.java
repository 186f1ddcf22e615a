import java.lang.reflect.Array;
import java.lang.reflect.Constructor;
import java.lang.reflect.Field;
import java.lang.reflect.Method;
import java.lang.reflect.Modifier;
import java.nio.file.Files;
import java.nio.file.Path;
import java.util.ArrayList;
import java.util.Arrays;
import java.util.HashSet;
import java.util.IdentityHashMap;
import java.util.List;
import java.util.Map;
import java.util.Set;
import java.util.TreeSet;
import java.util.regex.Matcher;
import java.util.regex.Pattern;

/** The public face, the rules of LANGUAGE.md that can be seen from outside, and the room an object takes. */
public final class FaceTest {
    private static final String[] FACE = {
        "int roll()", "int write(int,int,int,int)", "int rub(int)", "int years(int)", "int undo()", "int type(int)",
        "int clear()", "int read()", "int layers(int)", "int of(int,int,int)", "int binds(int,int,int)",
        "int rule(int,int)", "int ends(int,int)", "int quarrel(int)", "int tear(int,int)", "int hangs(int,int,int)",
        "int strokes(int,int,int,int)", "int parties(int,int,int,int)", "int seen(int,int,int,int)", "int forget()",
        "int is(int,int)", "int look(int,int)", "int thumbs(int,int,int,int)", "int centuries(int,int)",
        "long part(int)", "int image(int)", "int from(int)", "int status(int)", "int count(int)", "long digest()"};
    private static int wrong = 0;

    public static void main(String[] args) throws Exception {
        face();
        members();
        source(Path.of(args.length > 0 ? args[0] : ".", "src/main/java/ScrapedRoll.java"));
        room();
        System.out.println(wrong == 0 ? "the face and the rules are kept" : wrong + " rules are not kept");
        if (wrong != 0) {
            System.exit(1);
        }
    }

    private static void must(boolean kept, String rule) {
        if (!kept) {
            wrong++;
            System.out.println("not kept: " + rule);
        }
    }

    private static void face() {
        Set<String> due = new TreeSet<>(Arrays.asList(FACE));
        Set<String> got = new TreeSet<>();
        for (Method m : ScrapedRoll.class.getDeclaredMethods()) {
            if (!Modifier.isPrivate(m.getModifiers())) {
                List<String> types = new ArrayList<>();
                for (Class<?> p : m.getParameterTypes()) {
                    types.add(p.getName());
                }
                got.add(m.getReturnType().getName() + " " + m.getName() + "(" + String.join(",", types) + ")");
                must(Modifier.isPublic(m.getModifiers()) && !Modifier.isStatic(m.getModifiers()), "public, not static: " + m);
            }
        }
        must(got.equals(due), "the methods of the face: " + got);
        Constructor<?>[] made = ScrapedRoll.class.getDeclaredConstructors();
        must(made.length == 1 && Modifier.isPublic(made[0].getModifiers()) && made[0].getParameterCount() == 0, "one constructor");
        must(Modifier.isPublic(ScrapedRoll.class.getModifiers()) && Modifier.isFinal(ScrapedRoll.class.getModifiers()), "public final");
        must(ScrapedRoll.NONE == -1 && ScrapedRoll.BAD == -2 && ScrapedRoll.NO == -3 && ScrapedRoll.FULL == -4, "constants");
        Set<String> fields = new TreeSet<>();
        for (Field f : ScrapedRoll.class.getDeclaredFields()) {
            if (!Modifier.isPrivate(f.getModifiers())) {
                fields.add(f.getName());
            }
        }
        must(fields.equals(new TreeSet<>(List.of("NONE", "BAD", "NO", "FULL"))), "no other field is seen: " + fields);
    }

    private static void members() {
        Set<String> faceNames = new HashSet<>();
        for (String m : FACE) {
            faceNames.add(m.substring(m.indexOf(' ') + 1, m.indexOf('(')));
        }
        List<Class<?>> classes = new ArrayList<>(List.of(ScrapedRoll.class));
        classes.addAll(Arrays.asList(ScrapedRoll.class.getDeclaredClasses()));
        must(classes.size() <= 12, "rule 11: at most some twelve classes");
        for (Class<?> c : classes) {
            boolean outer = c == ScrapedRoll.class;
            must(outer || Modifier.isStatic(c.getModifiers()) && !Modifier.isPublic(c.getModifiers()), "rule 1: static, not public " + c);
            int fields = 0;
            for (Field f : c.getDeclaredFields()) {
                boolean constant = Modifier.isStatic(f.getModifiers());
                must(!constant || Modifier.isFinal(f.getModifiers()), "rule 5: static and not final " + f);
                fields += constant ? 0 : 1;
            }
            must(fields <= 20, "rule 11: some twenty fields " + c);
            for (Method m : c.getDeclaredMethods()) {
                must(m.getParameterCount() <= 7, "rule 11: seven parameters " + m);
                must(outer && Modifier.isPublic(m.getModifiers()) || !faceNames.contains(m.getName()), "rule 1: a name of the face " + m);
            }
        }
    }

    private static void source(Path file) throws Exception {
        String code = Files.readString(file).replaceAll("(?s)/\\*.*?\\*/", "").replaceAll("//[^\n]*", "");
        for (String word : List.of("throw", "throws", "try", "catch", "finally", "synchronized", "assert", "import", "package", "protected",
                "double", "float", "equals", "hashCode", "toString", "var", "Random", "Thread", "Object")) {
            must(!Pattern.compile("\\b" + word + "\\b").matcher(code).find(), "rules 3 to 6: " + word);
        }
        must(!code.contains("->") && !code.contains("::"), "rule 2: no lambda, no method reference");
        must(!Pattern.compile("\\w+Exact\\b").matcher(code).find(), "rule 4: Exact");
        Matcher library = Pattern.compile("\\b(System|Math|Integer|Long|String)\\s*\\.\\s*(\\w+)").matcher(code);
        while (library.find()) {
            String used = library.group(1) + "." + library.group(2);
            must(List.of("System.arraycopy", "Math.min", "Math.max", "Integer.bitCount").contains(used), "rule 4: " + used);
        }
        int begun = 0;
        String[] lines = Files.readString(file).split("\n");
        for (int n = 0; n < lines.length; n++) {
            if (lines[n].matches(" +(public|private)( static)? \\w+ \\w+\\(.*\\{")) {
                begun = n;
            }
            must(n - begun <= 60 || !lines[n].matches(" {4,8}\\}"), "rule 11: a method of sixty lines at " + (n + 1));
        }
    }

    /** Hundreds of objects of the class must fit into one room of 600,000 objects and 7.3 million elements. */
    private static void room() throws Exception {
        ScrapedRoll x = new ScrapedRoll();
        x.image(0);
        x.image(1);
        Map<Object, Boolean> found = new IdentityHashMap<>();
        long elements = measure(x, found);
        must(found.size() <= 80, "objects of one roll: " + found.size());
        must(elements <= 1500, "fields and elements of one roll: " + elements);
        useAll(x);
        Map<Object, Boolean> later = new IdentityHashMap<>();
        measure(x, later);
        must(later.keySet().equals(found.keySet()), "rows are made once and used again");
    }

    private static void useAll(ScrapedRoll x) {
        for (char b : "roll;write 0 0 0 1;".toCharArray()) {
            x.type(b);
        }
        x.read();
        x.years(4);
        x.rub(0);
        x.write(0, 1, 0, 0);
        x.seen(0, 0, 1, 1);
        x.image(0);
        x.image(1);
        x.strokes(0, 2, 9, 0);
        x.parties(0, 9, 3, 0);
        x.look(0, 0);
        x.thumbs(0, 4, 3, 1);
        x.centuries(7, 30);
        x.undo();
        x.from(1);
        x.digest();
        x.forget();
        x.clear();
        x.roll();
    }

    private static long measure(Object o, Map<Object, Boolean> found) throws Exception {
        if (o == null || found.put(o, true) != null) {
            return 0;
        }
        long sum = 0;
        if (o.getClass().isArray()) {
            sum = Array.getLength(o);
            if (o instanceof Object[]) {
                for (Object part : (Object[]) o) {
                    sum += measure(part, found);
                }
            }
            return sum;
        }
        for (Field f : o.getClass().getDeclaredFields()) {
            if (!Modifier.isStatic(f.getModifiers())) {
                f.setAccessible(true);
                sum += 1 + (f.getType().isPrimitive() ? 0 : measure(f.get(o), found));
            }
        }
        return sum;
    }
}
