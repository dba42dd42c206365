import java.io.IOException;
import java.nio.file.Files;
import java.nio.file.Path;
import java.util.List;
import java.util.TreeSet;
import java.util.regex.Matcher;
import java.util.regex.Pattern;

/** What can be seen of LANGUAGE.md in the text of the program: words that it rules out, lengths, parameters. */
public final class LanguageTest {
    private static final List<String> WORDS = List.of("throw", "throws", "try", "catch", "finally", "synchronized",
        "assert", "native", "volatile", "transient", "public static void", "System\\.out", "System\\.err", "Random",
        "Thread", "Object", "Class", "String\\.format", "hashCode", "toString", "java\\.util\\.(?!Arrays;)",
        "->", "::", "\\w+Exact", "this\\.getClass", "Math\\.random", "nanoTime", "currentTimeMillis");
    private static final int LINES_OF_A_METHOD = 60, PARAMETERS = 7, CLASSES = 12;

    private LanguageTest() {
    }

    public static void main(String[] args) throws IOException {
        String source = Files.readString(Path.of(args[0], "src/main/java/IronRumours.java"));
        yes("signs 1 to 127", source.chars().allMatch(sign -> sign > 0 && sign < 128));
        String bare = source.replaceAll("(?s)/\\*.*?\\*/", "").replaceAll("//[^\n]*", "")
            .replaceAll("'[^'\\\\]'", "'x'").replaceAll("\"[^\"]*\"", "\"\"");
        words(bare);
        imports(bare);
        methods(bare);
        names(bare);
        Check.end("LanguageTest");
    }

    private static void words(String bare) {
        // an arrow of a switch is none of a lambda
        String text = bare.replaceAll("\\b(case [^;:]*?|default) *->", "$1:");
        for (String word : WORDS) {
            boolean sign = !Character.isLetter(word.charAt(0)) && word.charAt(0) != '\\';
            yes("without " + word, !Pattern.compile(sign ? word : "\\b" + word + "\\b").matcher(text).find());
        }
    }

    private static void imports(String bare) {
        Matcher m = Pattern.compile("import ([^;]*);").matcher(bare);
        while (m.find()) {
            yes("import of " + m.group(1), m.group(1).matches("java\\.util\\.(Arrays|ArrayList|List|Iterator)"));
        }
        yes("no package line", !Pattern.compile("(?m)^package").matcher(bare).find());
    }

    /** By the layout: a method's head ends with " {", and its last brace stands as far in as its head. */
    private static void methods(String bare) {
        Matcher m = Pattern.compile("(?ms)^( +)((?:\\w+(?:\\[\\])* )+)(\\w+)\\(([^)]*)\\) \\{\n(.*?)^\\1\\}")
            .matcher(bare);
        while (m.find()) {
            if (!m.group(2).matches("(?s).*\\b(else|new|return) ")) {
                long lines = m.group(5).lines().count();
                yes(m.group(3) + " has " + lines + " lines", lines <= LINES_OF_A_METHOD);
                yes(m.group(3) + " takes " + m.group(4), m.group(4).split(",").length <= PARAMETERS);
            }
        }
    }

    private static void names(String bare) {
        TreeSet<String> face = new TreeSet<>();
        Matcher open = Pattern.compile("public \\w+ (\\w+)\\(").matcher(bare);
        while (open.find()) {
            face.add(open.group(1));
        }
        Matcher hidden = Pattern.compile("(?m)^ +(?!public|return|else|new)(?:[\\w\\[\\]]+ )+(\\w+)\\([^)]*\\) \\{").matcher(bare);
        while (hidden.find()) {
            yes(hidden.group(1) + " is no name of the face", !face.contains(hidden.group(1)));
        }
        Matcher classes = Pattern.compile("\\b(class|record|enum|interface) \\w+").matcher(bare);
        int many = 0;
        while (classes.find()) {
            many++;
        }
        yes("classes: " + many, many <= CLASSES);
    }

    private static void yes(String what, boolean is) {
        Check.due(what, is ? 1 : 0, 1);
    }
}
