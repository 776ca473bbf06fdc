import java.lang.reflect.Method;
import java.lang.reflect.Modifier;
import java.nio.file.Files;
import java.nio.file.Path;
import java.util.HashSet;
import java.util.Set;
import java.util.regex.Matcher;
import java.util.regex.Pattern;

/** What of LANGUAGE.md can be seen in the text of the program. */
public final class RulesTest {
    private static final String[] FORBIDDEN = {
        "\\bthrow\\b", "\\btry\\b", "\\bcatch\\b", "\\bsynchronized\\b", "\\bassert\\b", "\\bimport\\b", "\\bpackage\\b", "->",
        "::", "\\bprotected\\b", "\\bdouble\\b", "\\bfloat\\b", "Exact\\b", "\\bThread\\b", "\\bRandom\\b", "currentTimeMillis",
        "nanoTime", "\\bhashCode\\b", "\\btoString\\b", "static \\{", "\\bvar\\b"};
    private static final Pattern LIBRARY = Pattern.compile("\\b(System|Math|Long|Integer|Arrays|String|List)\\.(\\w+)");
    private static final Set<String> ALLOWED = Set.of("System.arraycopy", "Math.max", "Math.min", "Math.abs", "Long.bitCount");
    private static final Pattern METHOD = Pattern.compile(
            "(?m)^( +)(?:private|public)(?: static)? [\\w\\[\\]]+ (\\w+)\\(([^)]*)\\) \\{$");
    private static final int MOST_LINES = 60;

    public static void main(String[] args) throws Exception {
        Check check = new Check();
        String source = Files.readString(Path.of(args.length > 0 ? args[0] : "src/main/java/HoleCounty.java"));
        String code = source.replaceAll("(?s)/\\*.*?\\*/", "").replaceAll("//[^\n]*", "");
        for (String word : FORBIDDEN) {
            check.holds("no " + word, !Pattern.compile(word).matcher(code).find());
        }
        Matcher calls = LIBRARY.matcher(code);
        while (calls.find()) {
            check.holds("the library: " + calls.group(), ALLOWED.contains(calls.group()));
        }
        methods(check, source);
        names(check, HoleCounty.class);
        check.end("RulesTest");
    }

    private static void methods(Check check, String source) {
        Matcher m = METHOD.matcher(source);
        int seen = 0;
        while (m.find()) {
            seen++;
            int end = source.indexOf("\n" + m.group(1) + "}\n", m.end());
            int lines = (int) source.substring(m.start(), end).lines().count();
            check.holds(m.group(2) + " is short: " + lines, lines <= MOST_LINES);
            check.holds(m.group(2) + " takes at most seven", m.group(3).split(",").length <= 7);
        }
        check.holds("methods are seen: " + seen, seen > 80);
    }

    /** No private method, of the class or one inside it, bears the name of a public one; none else can be seen. */
    private static void names(Check check, Class<?> face) {
        Set<String> open = new HashSet<>();
        for (Method m : face.getDeclaredMethods()) {
            if (Modifier.isPublic(m.getModifiers())) {
                open.add(m.getName());
            }
        }
        Set<Class<?>> all = new HashSet<>(Set.of(face.getDeclaredClasses()));
        check.holds("at most twelve classes", all.size() < 12);
        all.add(face);
        for (Class<?> c : all) {
            check.holds(c + " has some twenty fields", fieldsOf(c) <= 20);
            for (Method m : c.getDeclaredMethods()) {
                boolean hidden = Modifier.isPrivate(m.getModifiers());
                check.holds(c + " " + m.getName(), hidden ? !open.contains(m.getName()) : c == face);
            }
        }
    }

    private static long fieldsOf(Class<?> c) {
        long n = 0;
        for (java.lang.reflect.Field f : c.getDeclaredFields()) {
            n += Modifier.isStatic(f.getModifiers()) ? 0 : 1;
            if (Modifier.isStatic(f.getModifiers()) && !Modifier.isFinal(f.getModifiers())) {
                n += 1000;
            }
        }
        return n;
    }
}
