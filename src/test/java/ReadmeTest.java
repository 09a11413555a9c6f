import java.io.IOException;
import java.lang.reflect.Method;
import java.lang.reflect.Modifier;
import java.net.URL;
import java.net.URLClassLoader;
import java.nio.file.Files;
import java.nio.file.Path;
import java.util.Comparator;
import java.util.List;
import java.util.regex.Matcher;
import java.util.regex.Pattern;
import java.util.stream.Stream;

/** The examples of README.md, compiled as they stand; each call must answer what is told behind it. */
public final class ReadmeTest {
    private static final Pattern EXAMPLES = Pattern.compile("(?s)```java\n(.*?)```");
    /** A call with its answer; the words behind that are free. */
    private static final Pattern CALL = Pattern.compile("(x\\.\\w+\\(.*?\\)); +// (-?\\d+|NONE|BAD|STATE|FULL)(\\W.*)?");
    private static final int CALLS = 512;

    private static final Due due = new Due("ReadmeTest");

    public static void main(String[] args) throws Exception {
        String readme = Files.readString(Path.of("README.md"));
        for (Method m : BeatBounds.class.getDeclaredMethods()) {
            boolean open = Modifier.isPublic(m.getModifiers());
            due.holds("README.md shows " + m.getName(), !open || readme.contains("x." + m.getName() + "("));
        }
        String name = "ReadmeExamples";
        Path folder = Files.createTempDirectory("readme");
        try {
            Path file = folder.resolve(name + ".java");
            Files.writeString(file, program(name, readme));
            int failed = new ProcessBuilder("javac", "-cp", System.getProperty("java.class.path"), "-d",
                folder.toString(), file.toString()).inheritIO().start().waitFor();
            due.is("the examples compile", failed, 0);
            if (failed == 0) {
                run(name, folder);
            }
        } finally {
            delete(folder);
        }
        due.end();
    }

    private static String program(String name, String readme) {
        StringBuilder all = new StringBuilder("public final class " + name + " {\npublic static void run() {\n");
        int calls = 0;
        Matcher example = EXAMPLES.matcher(readme);
        while (example.find()) {
            for (String line : example.group(1).split("\n")) {
                Matcher call = CALL.matcher(line);
                boolean told = call.matches();
                due.holds("README.md tells the answer of " + line, told || !line.startsWith("x."));
                calls += told ? 1 : 0;
                all.append(told ? compared(call.group(1), call.group(2)) : line).append('\n');
            }
        }
        due.holds("README.md has examples", calls > 0 && calls < CALLS);
        return all.append("}\n}\n").toString();
    }

    private static String compared(String call, String answer) {
        String want = Character.isLetter(answer.charAt(0)) ? "BeatBounds." + answer : answer;
        return "ReadmeTest.compare(\"" + call.replace("\"", "\\\"") + "\", " + call + ", " + want + ");";
    }

    /** Called by the compiled examples. */
    public static void compare(String call, int got, int want) {
        due.is(call, got, want);
    }

    private static void run(String name, Path folder) throws Exception {
        try (URLClassLoader loader = new URLClassLoader(
                new URL[] {folder.toUri().toURL()}, ReadmeTest.class.getClassLoader())) {
            loader.loadClass(name).getMethod("run").invoke(null);
        }
    }

    private static void delete(Path folder) throws IOException {
        List<Path> all;
        try (Stream<Path> walk = Files.walk(folder)) {
            all = walk.sorted(Comparator.reverseOrder()).toList();
        }
        for (Path path : all) {
            Files.delete(path);
        }
    }
}
