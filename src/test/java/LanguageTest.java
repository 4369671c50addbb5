import java.io.IOException;
import java.lang.reflect.Field;
import java.lang.reflect.Method;
import java.lang.reflect.Modifier;
import java.nio.file.Files;
import java.nio.file.Path;
import java.util.ArrayList;
import java.util.List;
import java.util.Set;
import java.util.regex.Matcher;
import java.util.regex.Pattern;

/** The class keeps to the rules of ../shared/LANGUAGE.md that can be told from its text, its shape and what it allocates. */
final class LanguageTest {
    private static final Path SOURCE = Path.of("src/main/java/ThrownSacks.java");
    private static final Set<String> LIBRARY = Set.of("Math.max", "Math.min", "Integer.bitCount", "Arrays.fill", "System.arraycopy");
    private static final Set<Class<?>> CONSTANTS = Set.of(int.class, long.class, boolean.class, char.class, String.class,
        int[].class, long[].class, char[].class, byte[].class);
    private static final int MOST_CLASSES = 12, MOST_FIELDS = 20, MOST_PARAMETERS = 7, MOST_LINES = 60;
    /** A run may hold some 600,000 objects; one object of the class and all its calls stay far below that. */
    private static final long MOST_BYTES = 64 * 1024;
    private static final Checks CHECKS = new Checks();

    public static void main(String[] args) throws IOException {
        String text = Files.readString(SOURCE);
        signs(text);
        String code = text.replaceAll("(?s)/\\*.*?\\*/|//[^\n]*", "").replaceAll("'\\\\?.'", "' '").replaceAll("\"[^\"\n]*\"", "\"\"");
        words(code);
        library(code);
        lengths(text);
        shape();
        allocated();
        CHECKS.end();
    }

    private static void no(String what, boolean found) {
        CHECKS.due(what, found ? 1 : 0, 0);
    }

    private static void signs(String text) {
        for (int place = 0; place < text.length(); place++) {
            char c = text.charAt(place);
            no("the sign " + (int) c + " at " + place, c > 126 || c < 32 && c != '\n');
        }
    }

    /** Rules 2, 4, 6 and 13: what no line may hold; and no exception is thrown, since the document wants none. */
    private static void words(String code) {
        for (String word : new String[] {"package", "finally", "synchronized", "assert", "native", "volatile", "throw", "throws",
            "try", "catch", "protected", "Thread", "Random", "hashCode", "toString"}) {
            no("the word " + word, Pattern.compile("\\b" + word + "\\b").matcher(code).find());
        }
        no("a lambda", code.contains("->"));
        no("a method reference", code.contains("::"));
        no("a static initialiser", Pattern.compile("static\\s*\\{").matcher(code).find());
    }

    private static void library(String code) {
        Matcher imports = Pattern.compile("import ([^;]*);").matcher(code);
        while (imports.find()) {
            CHECKS.due("import " + imports.group(1), imports.group(1).equals("java.util.Arrays") ? 1 : 0, 1);
        }
        Matcher calls = Pattern.compile("\\b(Math|Integer|Long|Arrays|System|String|List)\\.\\w+").matcher(code);
        while (calls.find()) {
            CHECKS.due(calls.group() + " is of the library that is allowed", LIBRARY.contains(calls.group()) ? 1 : 0, 1);
        }
    }

    /** Rule 11: a method ends with the bracket that stands as far in as its first line. */
    private static void lengths(String text) {
        String[] lines = text.split("\n");
        for (int first = 0; first < lines.length; first++) {
            Matcher method = Pattern.compile("^( {4,8})\\S.*\\) \\{$").matcher(lines[first]);
            if (method.find() && !lines[first].contains(" class ")) {
                int last = first;
                while (last < lines.length - 1 && !lines[last].equals(method.group(1) + "}")) {
                    last++;
                }
                CHECKS.due("lines above " + MOST_LINES + " of " + lines[first].trim(), Math.max(0, last - first + 1 - MOST_LINES), 0);
            }
        }
    }

    private static void shape() {
        List<Class<?>> all = new ArrayList<>(List.of(ThrownSacks.class.getDeclaredClasses()));
        all.add(ThrownSacks.class);
        no("more than " + MOST_CLASSES + " classes", all.size() > MOST_CLASSES);
        for (Class<?> c : all) {
            int fields = 0;
            for (Field f : c.getDeclaredFields()) {
                boolean fixed = Modifier.isStatic(f.getModifiers());
                fields += fixed || f.isSynthetic() ? 0 : 1;
                no(f + " is static and not final", fixed && !Modifier.isFinal(f.getModifiers()));
                no(f + " is a constant of another type", fixed && !CONSTANTS.contains(f.getType()));
                no(f + " is of two dimensions of objects", f.getType().getName().startsWith("[[L"));
            }
            no("more than " + MOST_FIELDS + " fields of " + c, fields > MOST_FIELDS);
            for (Method m : c.getDeclaredMethods()) {
                no("more than " + MOST_PARAMETERS + " parameters of " + m, m.getParameterCount() > MOST_PARAMETERS);
            }
        }
    }

    /** Rule 12. The first run loads what the machine needs for itself, and is not counted. */
    private static void allocated() {
        var threads = (com.sun.management.ThreadMXBean) java.lang.management.ManagementFactory.getThreadMXBean();
        long own = Thread.currentThread().getId();
        dearRun();
        long before = threads.getThreadAllocatedBytes(own);
        dearRun();
        long bytes = threads.getThreadAllocatedBytes(own) - before;
        CHECKS.due("bytes above " + MOST_BYTES + " of an object and 512 calls", Math.max(0, bytes - MOST_BYTES), 0);
    }

    private static void dearRun() {
        ThrownSacks x = new ThrownSacks();
        String floor = "81,72,63,54,45,36;123456";
        for (int place = 0; place < floor.length(); place++) {
            x.letter(floor.charAt(place));
        }
        x.floor();
        for (int round = 0; round < 24; round++) {
            int hook = round % 6;
            x.parcel(round % 5, hook);
            x.parcel(round % 5, hook);
            x.as(0, 2);
            x.toss(hook, 2);
            x.carry(hook);
            x.change(hook);
            x.exchange(hook, (hook + 1) % 6);
            x.forget();
            x.found(hook, (hook + 1) % 6);
            x.where(hook);
            x.shifts(60, round, 0);
            x.image();
            x.restore();
            x.letter(49);
            x.fault();
            x.floor();
            x.blank();
            x.digest();
        }
    }
}
