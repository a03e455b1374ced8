import java.io.IOException;
import java.lang.reflect.Method;
import java.lang.reflect.Modifier;
import java.nio.file.Files;
import java.nio.file.Path;
import java.util.regex.Matcher;
import java.util.regex.Pattern;

/** The examples of README.md answer what it says, and it names each call and each constant of the class. */
public final class ReadmeTest {
    private static final Path README = Path.of("README.md");
    private static final Path DOC = Path.of("../shared/DOC.md");
    private static int wrong = 0;
    private static int made = 0;

    private static void need(boolean so, String what) {
        if (!so) {
            wrong++;
            System.out.println("README.md: " + what);
        }
    }

    private static long call(HauntSums x, String name, String numbers) throws ReflectiveOperationException {
        String[] each = numbers.isBlank() ? new String[0] : numbers.split(",");
        Class<?>[] sorts = new Class<?>[each.length];
        Object[] values = new Object[each.length];
        for (int i = 0; i < each.length; i++) {
            sorts[i] = int.class;
            values[i] = Integer.parseInt(each[i].trim());
        }
        return ((Number) HauntSums.class.getMethod(name, sorts).invoke(x, values)).longValue();
    }

    /** All examples are one run on one object. */
    private static void examples(String page) throws ReflectiveOperationException {
        HauntSums x = new HauntSums();
        Matcher lines = Pattern.compile("(?m)^(?:String text = \"(.*)\";|town\\.(\\w+)\\(([-0-9, ]*)\\); *// (\\S+?)(?::.*)?)$")
            .matcher(page);
        while (lines.find()) {
            if (lines.group(1) != null) {
                for (char c : lines.group(1).toCharArray()) {
                    x.feed(c);
                }
                continue;
            }
            made++;
            long got = call(x, lines.group(2), lines.group(3));
            need(lines.group(4).equals(Long.toString(got)), lines.group() + " answered " + got);
        }
        long told = page.lines().filter(l -> l.startsWith("town.")).count();
        need(made == told, "of " + told + " calls " + made + " were understood");
    }

    private static void names(String page) throws IOException {
        String doc = Files.exists(DOC) ? Files.readString(DOC) : "";
        for (Method m : HauntSums.class.getDeclaredMethods()) {
            if (Modifier.isPublic(m.getModifiers())) {
                Matcher head = Pattern.compile("(?m)^    public (?:int|long) " + m.getName() + "\\((.*)\\);$").matcher(doc);
                String call = head.find() ? m.getName() + "(" + head.group(1).replace("int ", "") + ")" : m.getName() + "(";
                need(page.contains("| `" + call), "no row for " + call);
                need(page.matches("(?s).*\n### [^\n]*`" + m.getName() + "`.*"), "in no group: " + m.getName());
            }
        }
        String[] constants = {"BAD", "STATE", "FULL", "NONE"};
        for (int i = 0; i < constants.length; i++) {
            need(page.contains("| `" + constants[i] + "` | " + (-1 - i) + " | "), "no meaning of " + constants[i]);
        }
    }

    private static void tests(String page) throws IOException {
        need(page.contains(".ci/run"), "does not say how to run the tests");
        try (var files = Files.list(Path.of("src/test/java"))) {
            files.map(f -> f.getFileName().toString().replace(".java", ""))
                .forEach(t -> need(page.contains("`" + t + "`"), "does not tell of " + t));
        }
    }

    public static void main(String[] args) throws IOException, ReflectiveOperationException {
        String page = Files.readString(README);
        examples(page);
        names(page);
        tests(page);
        System.out.println(wrong == 0 ? made + " examples of README.md hold" : wrong + " do not hold");
        if (wrong != 0) {
            System.exit(1);
        }
    }
}
