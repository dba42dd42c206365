import java.io.IOException;
import java.lang.reflect.Method;
import java.net.URL;
import java.net.URLClassLoader;
import java.nio.file.Files;
import java.nio.file.Path;
import java.util.Arrays;
import java.util.List;
import java.util.TreeSet;
import java.util.regex.Matcher;
import java.util.regex.Pattern;
import java.util.stream.Collectors;
import java.util.stream.Stream;

/** What README.md says holds: its runs of calls answer as it tells, and the tests that it names are there. */
public final class ReadmeTest {
    /** A call with its answer behind it: "x.law(1); // 3: that it was". */
    private static final Pattern CALL = Pattern.compile("(?m)^(\\w+\\.(\\w+)\\(.*\\));\\s+// (-?\\d+):.*$");

    private ReadmeTest() {
    }

    public static void main(String[] args) throws Exception {
        Path root = Path.of(args[0]);
        String readme = Files.readString(root.resolve("README.md"));
        runsOfCalls(readme);
        testsAreNamed(readme, root);
        sentencesAreTested(readme);
        Check.due("its way to run the tests", Files.isExecutable(root.resolve(".ci/run"))
            && readme.contains("\n    .ci/run\n") ? 1 : 0, 1);
        Check.end("ReadmeTest");
    }

    /** Each java part of the page becomes a method of a class that is compiled and run. */
    private static void runsOfCalls(String readme) throws Exception {
        StringBuilder source = new StringBuilder("public final class Told {\n");
        TreeSet<String> named = new TreeSet<>();
        int parts = 0;
        Matcher part = Pattern.compile("(?s)```java\n(.*?)```").matcher(readme);
        while (part.find()) {
            Matcher call = CALL.matcher(part.group(1));
            while (call.find()) {
                named.add(call.group(2));
            }
            source.append("public static void part").append(parts++).append("() {\n")
                .append(CALL.matcher(part.group(1)).replaceAll("ReadmeTest.due(\"$2\", $1, $3L);")).append("}\n");
        }
        Check.due("parts", parts, 2);
        Check.due("calls with an answer: " + named, named.size() > 20 ? 1 : 0, 1);
        run(source.append("}\n").toString(), parts);
    }

    /** For the page's class, which another loader brings: it sees what is public alone. */
    public static void due(String call, long got, long want) {
        Check.due("README: " + call, got, want);
    }

    private static void run(String source, int parts) throws Exception {
        Path folder = Files.createTempDirectory("readme");
        Path file = Files.writeString(folder.resolve("Told.java"), source);
        int code = new ProcessBuilder("javac", "--release", "17", "-classpath", System.getProperty("java.class.path"),
            "-d", folder.toString(), file.toString()).inheritIO().start().waitFor();
        Check.due("its java parts compile", code, 0);
        try (URLClassLoader loader = new URLClassLoader(new URL[] {folder.toUri().toURL()})) {
            for (int k = 0; code == 0 && k < parts; k++) {
                loader.loadClass("Told").getMethod("part" + k).invoke(null);
            }
        }
        Files.deleteIfExists(folder.resolve("Told.class"));
        Files.delete(file);
        Files.delete(folder);
    }

    private static void testsAreNamed(String readme, Path root) throws IOException {
        TreeSet<String> named = new TreeSet<>();
        Matcher row = Pattern.compile("(?m)^\\| (`\\w+Test`(?:, `\\w+Test`)*) \\|").matcher(readme);
        while (row.find()) {
            named.addAll(List.of(row.group(1).replace("`", "").split(", ")));
        }
        try (Stream<Path> files = Files.list(root.resolve("src/test/java"))) {
            TreeSet<String> there = files.map(file -> file.getFileName().toString().replace(".java", ""))
                .filter(name -> name.endsWith("Test")).collect(Collectors.toCollection(TreeSet::new));
            Check.due("the tests are " + there + ", named are " + named, there.equals(named) ? 1 : 0, 1);
        }
    }

    /** Behind each sentence stand tests: `EdgesTest`, `EdgesTest.fog`, or `.fog` of the test named just ahead. */
    private static void sentencesAreTested(String readme) throws ClassNotFoundException {
        String[] rows = readme.substring(readme.indexOf("| sentence | test |")).split("\n");
        Check.due("sentences", rows.length > 30 ? 1 : 0, 1);
        for (int k = 2; k < rows.length; k++) {
            String tests = rows[k].substring(rows[k].lastIndexOf(" | ") + 3);
            Matcher name = Pattern.compile("`(\\w*)(?:\\.(\\w+))?`").matcher(tests);
            Class<?> test = null;
            while (name.find()) {
                test = name.group(1).isEmpty() ? test : Class.forName(name.group(1), false, ReadmeTest.class.getClassLoader());
                Check.due(rows[k] + ": " + name.group(), has(test, name.group(2)) ? 1 : 0, 1);
            }
            Check.due(rows[k] + ": has a test", test != null ? 1 : 0, 1);
        }
    }

    private static boolean has(Class<?> test, String method) {
        return test != null && (method == null || Arrays.stream(test.getDeclaredMethods()).map(Method::getName)
            .anyMatch(method::equals));
    }
}
