import java.io.IOException;
import java.lang.reflect.Method;
import java.lang.reflect.Modifier;
import java.net.URL;
import java.net.URLClassLoader;
import java.nio.file.Files;
import java.nio.file.Path;
import java.util.Comparator;
import java.util.regex.Matcher;
import java.util.regex.Pattern;
import java.util.stream.Collectors;
import java.util.stream.Stream;

/** README.md tells the truth: its lines answer what stands behind them, and it names every call. */
public final class ReadmeTest {
    /** What is named, if anything; the call; the answer at the end of its comment. */
    private static final Pattern LINE = Pattern.compile("(?:int (\\w+) = )?(bet\\..*); *// .*: (-?\\d+|[A-Z]+)");

    public static void main(String[] args) throws Exception {
        String readme = Files.readString(Path.of("README.md"));
        everyCall(readme);
        lines(readme);
        Due.end();
    }

    /** The lines run in a class that another loader has brought: it can't reach Due itself. */
    public static void due(String call, int got, int want) {
        Due.due("README: " + call, got, want);
    }

    private static void everyCall(String readme) {
        for (Method m : TurtleBet.class.getDeclaredMethods()) {
            if (Modifier.isPublic(m.getModifiers())) {
                String values = Stream.generate(() -> "\\w+").limit(m.getParameterCount()).collect(Collectors.joining(", "));
                Pattern row = Pattern.compile("\n\\| `" + m.getName() + "\\(" + values + "\\)` \\|");
                Due.isTrue("README has a row for " + m.getName(), row.matcher(readme).find());
            }
        }
    }

    private static void lines(String readme) throws Exception {
        StringBuilder body = new StringBuilder();
        int compared = 0;
        Matcher block = Pattern.compile("(?s)```java\n(.*?)```").matcher(readme);
        while (block.find()) {
            for (String line : block.group(1).split("\n")) {
                Matcher m = LINE.matcher(line);
                compared += m.matches() ? 1 : 0;
                body.append(m.matches() ? compares(m) : line).append('\n');
            }
        }
        Due.isTrue("README compares answers", compared > 30);
        run("public final class Lines { public static void main(String[] args) {\n" + body + "} }\n");
    }

    private static String compares(Matcher m) {
        String want = Character.isLetter(m.group(3).charAt(0)) ? "TurtleBet." + m.group(3) : m.group(3);
        String named = m.group(1) == null ? "" : "int " + m.group(1) + " = " + m.group(2) + "; ";
        String got = m.group(1) == null ? m.group(2) : m.group(1);
        return named + "ReadmeTest.due(\"" + m.group(2) + "\", " + got + ", " + want + ");";
    }

    private static void run(String source) throws Exception {
        Path dir = Files.createTempDirectory("readme");
        try {
            Path file = dir.resolve("Lines.java");
            Files.writeString(file, source);
            String path = System.getProperty("java.class.path");
            int failed = new ProcessBuilder("javac", "-cp", path, "-d", dir.toString(), file.toString()).inheritIO().start().waitFor();
            Due.due("README compiles", failed, 0);
            if (failed == 0) {
                try (URLClassLoader loader = new URLClassLoader(new URL[] {dir.toUri().toURL()})) {
                    loader.loadClass("Lines").getMethod("main", String[].class).invoke(null, (Object) new String[0]);
                }
            }
        } finally {
            delete(dir);
        }
    }

    private static void delete(Path dir) throws IOException {
        try (Stream<Path> all = Files.walk(dir)) {
            for (Path one : all.sorted(Comparator.reverseOrder()).collect(Collectors.toList())) {
                Files.delete(one);
            }
        }
    }
}
