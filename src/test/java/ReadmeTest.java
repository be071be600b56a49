import java.io.IOException;
import java.lang.reflect.Method;
import java.nio.charset.StandardCharsets;
import java.nio.file.Files;
import java.nio.file.Path;
import java.util.regex.Matcher;
import java.util.regex.Pattern;

/** The calls of README.md's example, made one by one: each answers what its comment says. */
public final class ReadmeTest {
    private static final Pattern CALL = Pattern.compile("field\\.(\\w+)\\(([^)]*)\\);\\s*// (true|false|-?\\d+).*");

    public static void main(String[] args) throws IOException, ReflectiveOperationException {
        String text = Files.readString(Path.of("README.md"), StandardCharsets.UTF_8);
        Matcher block = Pattern.compile("```java\n(.*?)```", Pattern.DOTALL).matcher(text);
        PacketField field = new PacketField();
        int calls = 0;
        while (block.find()) {
            for (String line : block.group(1).split("\n")) {
                if (line.startsWith("field.")) {
                    make(field, line);
                    calls++;
                }
            }
        }
        Harness.due(1, "README.md has an example", calls > 10, true);
        Harness.finish();
    }

    private static void make(PacketField field, String line) throws ReflectiveOperationException {
        Matcher m = CALL.matcher(line);
        if (!m.matches()) {
            Harness.due(1, "README.md says what is answered: " + line, false, true);
            return;
        }
        String[] words = m.group(2).isEmpty() ? new String[0] : m.group(2).split(", ");
        Object[] arguments = new Object[words.length];
        for (int i = 0; i < words.length; i++) {
            arguments[i] = words[i].equals("PacketField.NONE") ? PacketField.NONE : Integer.decode(words[i]);
        }
        for (Method method : PacketField.class.getMethods()) {
            if (method.getName().equals(m.group(1))) {
                String got = String.valueOf(method.invoke(field, arguments));
                Harness.due(1, "README.md: " + line + " (answered " + got + ")", got.equals(m.group(3)), true);
                return;
            }
        }
        Harness.due(1, "README.md calls what there is: " + line, false, true);
    }
}
