import java.io.IOException;
import java.nio.file.Files;
import java.nio.file.Path;
import java.util.regex.Matcher;
import java.util.regex.Pattern;

/** The example of README.md is run as it stands there, and each answer that it tells is due; and README.md names all that there is. */
final class ReadmeTest {
    private static final Pattern FLOOR = Pattern.compile("String floor = \"([^\"]*)\";");
    private static final Pattern CALL = Pattern.compile("^x\\.(\\w+)\\(([-0-9, ]*)\\);(?:\\s+// (-?\\w+).*)?$");
    private static final Checks CHECKS = new Checks();

    public static void main(String[] args) throws IOException {
        String readme = Files.readString(Path.of("README.md"));
        example(readme.split("```java\n")[1].split("```")[0]);
        for (java.lang.reflect.Method m : ThrownSacks.class.getDeclaredMethods()) {
            if (java.lang.reflect.Modifier.isPublic(m.getModifiers())) {
                CHECKS.due("README.md names " + m.getName(), readme.contains("`" + m.getName() + "`") ? 1 : 0, 1);
            }
        }
        try (var files = Files.list(Path.of("src/test/java"))) {
            files.forEach(file -> CHECKS.due("README.md names " + file.getFileName(),
                readme.contains(file.getFileName().toString()) ? 1 : 0, 1));
        }
        CHECKS.end();
    }

    private static void example(String code) {
        ThrownSacks x = new ThrownSacks();
        Matcher floor = FLOOR.matcher(code);
        CHECKS.due("the example tells a FLOOR", floor.find() ? 1 : 0, 1);
        for (char c : floor.group(1).toCharArray()) {
            x.letter(c);
        }
        int told = 0;
        for (String line : code.split("\n")) {
            Matcher call = CALL.matcher(line);
            if (call.find()) {
                long got = Script.answer(x, call.group(1) + " " + call.group(2).replace(",", ""));
                if (call.group(3) != null) {
                    told++;
                    CHECKS.due("README.md: " + line.trim(), got, Script.number(call.group(3)));
                }
            } else {
                CHECKS.due("README.md: a line that begins with a call is one: " + line, line.startsWith("x.") ? 1 : 0, 0);
            }
        }
        CHECKS.due("README.md tells at least ten answers", Math.min(10, told), 10);
    }
}
