import java.io.IOException;
import java.lang.reflect.Constructor;
import java.lang.reflect.Field;
import java.lang.reflect.Method;
import java.lang.reflect.Modifier;
import java.nio.file.Files;
import java.nio.file.Path;
import java.util.ArrayDeque;
import java.util.Arrays;
import java.util.Deque;
import java.util.HashSet;
import java.util.IdentityHashMap;
import java.util.Map;
import java.util.Set;
import java.util.TreeSet;
import java.util.regex.Matcher;
import java.util.regex.Pattern;

/** What ../shared/LANGUAGE.md rules out, as far as it can be seen in the source and in the class. */
public final class LanguageTest {
    private static final Path SOURCE = Path.of("src/main/java/HauntSums.java");
    private static int wrong = 0;

    private static void need(boolean so, String what) {
        if (!so) {
            wrong++;
            System.out.println(what);
        }
    }

    private static String withoutComments(String source) {
        return source.replaceAll("(?s)/\\*.*?\\*/", " ").replaceAll("//[^\n]*", " ");
    }

    private static void words(String code) {
        String bare = code.replaceAll("\"[^\"\n]*\"", "\"\"");
        String[] ruledOut = {"\\bthrow\\b", "\\bthrows\\b", "\\btry\\b", "\\bcatch\\b", "\\bsynchronized\\b", "\\bassert\\b",
            "->", "::", "\\bimport\\b", "\\bpackage\\b", "\\bvar\\b", "\\byield\\b", "\\bThread\\b", "\\bObject\\b",
            "\\bprotected\\b", "\\bnative\\b", "\\bvolatile\\b", "\\bhashCode\\b", "\\btoString\\b", "Exact\\(",
            "\\bstatic\\s*\\{", "@", "System\\.(?!arraycopy\\()", "Math\\.(?!max\\(|min\\(|abs\\()"};
        for (String r : ruledOut) {
            Matcher m = Pattern.compile(r).matcher(bare);
            need(!m.find(), "the source has " + r);
        }
    }

    private static void face() {
        need(Modifier.isFinal(HauntSums.class.getModifiers()), "the class is not final");
        Set<String> open = new HashSet<>();
        Set<String> closed = new HashSet<>();
        for (Method m : HauntSums.class.getDeclaredMethods()) {
            if (Modifier.isPublic(m.getModifiers())) {
                open.add(m.getName());
            } else {
                need(Modifier.isPrivate(m.getModifiers()) || m.isSynthetic(), "not private: " + m);
                closed.add(m.getName());
            }
            need(m.getParameterCount() <= 7, "more than seven parameters: " + m);
        }
        closed.retainAll(open);
        need(closed.isEmpty(), "private methods bear names of public ones: " + closed);
        Set<String> due = new TreeSet<>(Arrays.asList(("feed end text fault rule ghost clerk alter post leave nights runs ahead "
            + "rests meets harm best learn quiet better from luck mean see forget kinds second look drift keep back sheet lay "
            + "read torn count").split(" ")));
        need(new TreeSet<>(open).equals(due), "the public methods are " + open);
        Set<String> constants = new TreeSet<>();
        for (Field f : HauntSums.class.getDeclaredFields()) {
            if (Modifier.isPublic(f.getModifiers())) {
                constants.add(f.getName());
            } else {
                need(Modifier.isPrivate(f.getModifiers()), "not private: " + f);
            }
        }
        need(constants.equals(Set.of("BAD", "STATE", "FULL", "NONE")), "the public constants are " + constants);
        Constructor<?>[] made = HauntSums.class.getDeclaredConstructors();
        need(made.length == 1 && Modifier.isPublic(made[0].getModifiers()), "not one public constructor");
        for (Class<?> c : HauntSums.class.getDeclaredClasses()) {
            need(Modifier.isStatic(c.getModifiers()), "not static: " + c);
            for (Method m : c.getDeclaredMethods()) {
                need(!due.contains(m.getName()), "bears the name of a public one: " + m);
                need(m.getParameterCount() <= 7, "more than seven parameters: " + m);
            }
            need(fieldsOf(c) <= 20, "too many fields: " + c);
        }
        need(HauntSums.class.getDeclaredClasses().length < 12, "too many classes");
        need(fieldsOf(HauntSums.class) <= 20, "too many fields");
    }

    private static long fieldsOf(Class<?> c) {
        return Arrays.stream(c.getDeclaredFields()).filter(f -> !Modifier.isStatic(f.getModifiers())).count();
    }

    private static void staticState() {
        Deque<Class<?>> all = new ArrayDeque<>(Arrays.asList(HauntSums.class.getDeclaredClasses()));
        all.add(HauntSums.class);
        for (Class<?> c : all) {
            for (Field f : c.getDeclaredFields()) {
                need(!Modifier.isStatic(f.getModifiers()) || Modifier.isFinal(f.getModifiers()), "static, not final: " + f);
            }
        }
    }

    /** Methods begin at a brace behind a parenthesis, four or eight blanks in, and end at the brace below it. */
    private static void lengths(String source) {
        String[] lines = source.split("\n");
        for (int i = 0; i < lines.length; i++) {
            Matcher m = Pattern.compile("^( {4}| {8})[A-Za-z].*\\) \\{$").matcher(lines[i]);
            if (m.find() && !lines[i].trim().matches("(if|for|while|switch|else)\\b.*")) {
                int end = i;
                while (end < lines.length && !lines[end].equals(m.group(1) + "}")) {
                    end++;
                }
                need(end - i < 60, "a long method: " + lines[i].trim());
            }
        }
    }

    /** The longest chain of calls, by the names of methods in the source; a name that calls itself would have no end. */
    private static void depth(String code) {
        Map<String, Set<String>> calls = new java.util.HashMap<>();
        Matcher heads = Pattern.compile("(?m)^ {4,8}(?:public |private |static |final )*(?:int|long|boolean|void) (\\w+)\\([^)]*\\) \\{$")
            .matcher(code);
        java.util.List<String> names = new java.util.ArrayList<>();
        java.util.List<Integer> at = new java.util.ArrayList<>();
        while (heads.find()) {
            names.add(heads.group(1));
            at.add(heads.end());
        }
        at.add(code.length());
        for (int i = 0; i < names.size(); i++) {
            String body = code.substring(at.get(i), at.get(i + 1));
            Set<String> in = calls.computeIfAbsent(names.get(i), n -> new TreeSet<>());
            // the head of the next method is no call
            Matcher m = Pattern.compile("(?<!(?:int|long|boolean|void) )\\b(\\w+)\\(").matcher(body);
            while (m.find()) {
                if (names.contains(m.group(1))) {
                    in.add(m.group(1));
                }
            }
        }
        for (String n : names) {
            int deep = deepest(calls, n, 0);
            need(deep <= 8, n + " goes " + deep + " deep");
        }
    }

    private static int deepest(Map<String, Set<String>> calls, String name, int above) {
        if (above > 20) {
            return above;
        }
        int most = above + 1;
        for (String next : calls.getOrDefault(name, Set.of())) {
            most = Math.max(most, deepest(calls, next, above + 1));
        }
        return most;
    }

    /** What one object holds; no call makes more (the source has no 'new' outside of fields). */
    private static void held(String code) throws IllegalAccessException {
        for (String line : code.split("\n")) {
            need(!line.contains("new ") || line.trim().matches("(private )?final .*"), "makes an object: " + line.trim());
        }
        need(!code.contains(".clone()") && !code.contains("Arrays."), "makes an array");
        Map<Object, Boolean> met = new IdentityHashMap<>();
        Deque<Object> open = new ArrayDeque<>();
        open.add(new HauntSums());
        long cells = 0;
        while (!open.isEmpty()) {
            Object o = open.poll();
            if (met.put(o, true) != null) {
                continue;
            }
            if (o.getClass().isArray()) {
                int length = java.lang.reflect.Array.getLength(o);
                cells += length;
                for (int i = 0; i < length && !o.getClass().getComponentType().isPrimitive(); i++) {
                    open.add(java.lang.reflect.Array.get(o, i));
                }
                continue;
            }
            for (Field f : o.getClass().getDeclaredFields()) {
                if (!Modifier.isStatic(f.getModifiers())) {
                    cells++;
                    f.setAccessible(true);
                    if (!f.getType().isPrimitive()) {
                        open.add(f.get(o));
                    }
                }
            }
        }
        System.out.println("an object is made of " + met.size() + " objects and arrays with " + cells + " fields and elements");
        need(met.size() <= 100 && cells <= 1500, "an object holds too much");
    }

    public static void main(String[] args) throws IOException, IllegalAccessException {
        String source = Files.readString(SOURCE);
        String code = withoutComments(source);
        words(code);
        face();
        staticState();
        lengths(source);
        depth(code);
        held(code);
        for (int i = 0; i < source.length(); i++) {
            need(source.charAt(i) < 128, "a sign above 127 in the source");
        }
        System.out.println(wrong == 0 ? "the language is kept to" : wrong + " rules are broken");
        if (wrong != 0) {
            System.exit(1);
        }
    }
}
