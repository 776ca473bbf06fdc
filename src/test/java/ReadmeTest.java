import java.io.IOException;
import java.net.URL;
import java.net.URLClassLoader;
import java.nio.file.Files;
import java.nio.file.Path;
import java.util.ArrayList;
import java.util.Comparator;
import java.util.List;
import java.util.regex.Matcher;
import java.util.regex.Pattern;
import java.util.stream.Stream;
import javax.tools.ToolProvider;

/** README.md says how to use the class: its blocks are compiled and run, each call has to answer the number behind it. */
public final class ReadmeTest {
    private static final Pattern BLOCK = Pattern.compile("(?s)```java\n(.*?)```");
    private static final Pattern CALL = Pattern.compile("(?m)^( *)(county\\.\\w+\\(.*\\)); +// (-?\\d+)(?::.*)?$");

    public static void main(String[] args) throws Exception {
        Check check = new Check();
        Path program = Path.of(args.length > 0 ? args[0] : "src/main/java/HoleCounty.java").toAbsolutePath();
        // four folders up from the program: src/main/java/HoleCounty.java
        Path readme = program.getParent().getParent().getParent().getParent().resolve("README.md");
        List<String> blocks = blocksOf(Files.readString(readme));
        check.holds("blocks are seen: " + blocks.size(), blocks.size() >= 4);
        Path folder = Files.createTempDirectory("readme");
        try {
            for (int k = 0; k < blocks.size(); k++) {
                run(check, folder, "Block" + k, blocks.get(k), program);
            }
        } finally {
            wipe(folder);
        }
        check.end("ReadmeTest");
    }

    private static List<String> blocksOf(String readme) {
        List<String> blocks = new ArrayList<>();
        Matcher m = BLOCK.matcher(readme);
        while (m.find()) {
            blocks.add(m.group(1));
        }
        return blocks;
    }

    private static void run(Check check, Path folder, String name, String block, Path program) throws Exception {
        Matcher calls = CALL.matcher(block);
        check.holds(name + " has calls with answers", calls.find());
        String body = calls.reset().replaceAll("$1told.add(new String[] {\"$2\", \"\" + ($2), \"$3\"});");
        String source = "public final class " + name + " implements Runnable {\n"
                + "public final java.util.List<String[]> told = new java.util.ArrayList<>();\n"
                + "public void run() {\n" + body + "}\n}\n";
        Path file = folder.resolve(name + ".java");
        Files.writeString(file, source);
        int compiled = ToolProvider.getSystemJavaCompiler().run(null, null, null, "-proc:none", "-d", folder.toString(),
                file.toString(), program.toString());
        check.is(name + " compiles", compiled, 0);
        if (compiled == 0) {
            answers(check, folder, name);
        }
    }

    private static void answers(Check check, Path folder, String name) throws Exception {
        try (URLClassLoader loader = new URLClassLoader(new URL[] {folder.toUri().toURL()}, null)) {
            Object block = loader.loadClass(name).getConstructor().newInstance();
            ((Runnable) block).run();
            for (Object row : (List<?>) block.getClass().getField("told").get(block)) {
                String[] call = (String[]) row;
                check.is(name + " " + call[0], Long.parseLong(call[1]), Long.parseLong(call[2]));
            }
        }
    }

    private static void wipe(Path folder) throws IOException {
        try (Stream<Path> all = Files.walk(folder)) {
            for (Path path : all.sorted(Comparator.reverseOrder()).toList()) {
                Files.delete(path);
            }
        }
    }
}
