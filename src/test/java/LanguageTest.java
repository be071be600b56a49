import java.io.IOException;
import java.nio.charset.StandardCharsets;
import java.nio.file.Files;
import java.nio.file.Path;
import java.util.List;
import java.util.regex.Matcher;
import java.util.regex.Pattern;

/** The rules of LANGUAGE.md that a look at the text can tell. */
public final class LanguageTest {
    private static final String[] FORBIDDEN = {"\\bthrow\\b", "\\bthrows\\b", "\\btry\\b", "\\bcatch\\b",
        "\\bsynchronized\\b", "\\bassert\\b", "\\bimport\\b", "\\bpackage\\b", "->", "::", "@", "\\bprotected\\b",
        "\\bstatic\\s*\\{", "\\bdouble\\b", "\\bfloat\\b", "Exact\\b", "\\bObject\\b", "\\bequals\\b", "\\bvolatile\\b",
        "System\\.(?!arraycopy)", "\\bThread\\b", "\\bRandom\\b", "while\\s*\\(true\\)"};

    public static void main(String[] args) throws IOException {
        List<String> lines = Files.readAllLines(Path.of("src/main/java/PacketField.java"), StandardCharsets.US_ASCII);
        String code = withoutComments(String.join("\n", lines));
        for (String word : FORBIDDEN) {
            Matcher m = Pattern.compile(word).matcher(code);
            Harness.due(1, "PacketField.java has " + word, m.find(), false);
        }
        classes(code);
        methods(code);
        fields(code);
        Harness.finish();
    }

    private static String withoutComments(String text) {
        return text.replaceAll("(?s)/\\*.*?\\*/", "").replaceAll("//[^\n]*", "");
    }

    private static int count(String pattern, String text) {
        Matcher m = Pattern.compile(pattern).matcher(text);
        int n = 0;
        while (m.find()) {
            n++;
        }
        return n;
    }

    private static void classes(String code) {
        int all = count("\\b(class|record|enum|interface)\\s+[A-Z]", code);
        int nested = count("private static final class [A-Z]", code);
        Harness.due(1, "classes: " + all, all <= 12, true);
        Harness.due(1, "all but one are private, static and final", nested, all - 1);
    }

    private static void methods(String code) {
        Matcher m = Pattern.compile("\n( +)(?:[a-zA-Z\\[\\]]+ )+(\\w+)\\(([^)]*)\\) \\{\n(.*?)\n\\1\\}", Pattern.DOTALL).matcher(code);
        int seen = 0;
        while (m.find()) {
            if (m.group(2).equals("switch") || m.group(2).equals("if")) {
                continue;
            }
            seen++;
            int lines = m.group(4).split("\n").length;
            int parameters = m.group(3).isEmpty() ? 0 : m.group(3).split(",").length;
            Harness.due(1, "lines of " + m.group(2) + ": " + lines, lines <= 60, true);
            Harness.due(1, "parameters of " + m.group(2) + ": " + parameters, parameters <= 7, true);
        }
        Harness.due(1, "methods that were looked at: " + seen, seen > 60, true);
    }

    /** No static field but constants. */
    private static void fields(String code) {
        Matcher m = Pattern.compile("\\bstatic\\s+(?!final\\b)[\\w\\[\\]]+\\s+\\w+\\s*[=;]").matcher(code);
        Harness.due(1, "static fields that are not final", m.find(), false);
    }
}
