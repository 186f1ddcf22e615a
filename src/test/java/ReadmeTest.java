import java.lang.reflect.Method;
import java.nio.file.Files;
import java.nio.file.Path;
import java.util.regex.Matcher;
import java.util.regex.Pattern;

/** README.md: its examples answer what is told behind them, every call and every test is told. */
public final class ReadmeTest {
    private static final Pattern MADE = Pattern.compile("ScrapedRoll roll = new ScrapedRoll\\(\\);");
    private static final Pattern TYPED =
        Pattern.compile("for \\(char b : \"([^\"]*)\"\\.toCharArray\\(\\)\\) roll\\.type\\(b\\);");
    private static final Pattern ASKED = Pattern.compile("roll\\.(\\w+)\\(([^)]*)\\); +// (-?\\d+)(:.*)?");
    private static ScrapedRoll roll = new ScrapedRoll();
    private static int asked = 0;
    private static int wrong = 0;

    public static void main(String[] args) throws Exception {
        Path root = Path.of(args.length > 0 ? args[0] : ".");
        String told = Files.readString(root.resolve("README.md"));
        examples(told);
        everyCall(told);
        everyTest(root, told);
        System.out.println(asked + " asked, " + wrong + " not as told");
        if (wrong != 0 || asked < 25) {
            System.exit(1);
        }
    }

    private static void must(boolean kept, String what) {
        if (!kept) {
            wrong++;
            System.out.println("README.md: " + what);
        }
    }

    private static void examples(String told) throws Exception {
        Matcher block = Pattern.compile("(?s)```java\n(.*?)```").matcher(told);
        while (block.find()) {
            for (String line : block.group(1).split("\n")) {
                must(follow(line), "not understood: " + line);
            }
        }
    }

    private static boolean follow(String line) throws Exception {
        if (MADE.matcher(line).matches()) {
            roll = new ScrapedRoll();
            return true;
        }
        Matcher typed = TYPED.matcher(line);
        if (typed.matches()) {
            for (char b : typed.group(1).toCharArray()) {
                roll.type(b);
            }
            return true;
        }
        Matcher call = ASKED.matcher(line);
        if (!call.matches()) {
            return false;
        }
        long got = answer(call.group(1), call.group(2));
        asked++;
        must(got == Long.parseLong(call.group(3)), line + " answered " + got);
        return true;
    }

    private static long answer(String name, String numbers) throws Exception {
        String[] texts = numbers.isBlank() ? new String[0] : numbers.split(", *");
        Object[] values = new Object[texts.length];
        Class<?>[] types = new Class<?>[texts.length];
        for (int k = 0; k < texts.length; k++) {
            values[k] = texts[k].equals("ScrapedRoll.NONE") ? ScrapedRoll.NONE : Integer.parseInt(texts[k]);
            types[k] = int.class;
        }
        return ((Number) ScrapedRoll.class.getMethod(name, types).invoke(roll, values)).longValue();
    }

    private static void everyCall(String told) {
        for (Method m : ScrapedRoll.class.getMethods()) {
            if (m.getDeclaringClass() == ScrapedRoll.class) {
                String form = "`" + m.getName() + "\\((\\w+(, )?){" + m.getParameterCount() + "}\\)`";
                must(Pattern.compile(form).matcher(told).find(), "does not tell " + m);
            }
        }
    }

    private static void everyTest(Path root, String told) throws Exception {
        try (var files = Files.list(root.resolve("src/test/java"))) {
            for (Path file : files.toList()) {
                String name = file.getFileName().toString().replace(".java", "");
                must(told.contains("`" + name + "`"), "does not tell the test " + name);
            }
        }
    }
}
