import java.io.IOException;
import java.lang.reflect.InvocationTargetException;
import java.lang.reflect.Method;
import java.nio.file.Files;
import java.nio.file.Path;
import java.util.ArrayList;
import java.util.List;
import java.util.Set;
import java.util.TreeSet;
import java.util.regex.Matcher;
import java.util.regex.Pattern;

/**
 * README.md tells of each call of the document's face and of no other, and each line of its examples answers what
 * stands behind it.
 */
public final class ReadmeTest extends BoxTest {
    private static final Path README = Path.of("README.md");
    private static final Path DOCUMENT = Path.of("../shared/DOC.md");
    private static final Pattern FACE_LINE = Pattern.compile(" *public ((?:int|long|boolean) \\w+\\([^)]*\\));");
    private static final Pattern TABLE_LINE = Pattern.compile("\\| `((?:int|long|boolean) \\w+\\([^)]*\\))` \\|.*");
    private static final Pattern EXAMPLE_LINE = Pattern.compile("x\\.(\\w+)\\(([^)]*)\\); +// (-?\\d+|true|false)(?:: .*)?");
    private static final String NEW_OBJECT = "ReelOfBoxes x = new ReelOfBoxes();";

    private ReadmeTest() {
    }

    public static void main(String[] args) throws IOException, ReflectiveOperationException {
        List<String> readme = Files.readAllLines(README);
        List<String> face = found(Files.readAllLines(DOCUMENT), FACE_LINE);
        due("how many calls the document's face has", face.size(), 16);
        List<String> told = found(readme, TABLE_LINE);
        due("README.md tells of the calls of the face, each once: " + told,
            told.size() == face.size() && new TreeSet<>(told).equals(new TreeSet<>(face)), true);
        Set<String> shown = playExamples(readme);
        for (String call : face) {
            String name = call.substring(call.indexOf(' ') + 1, call.indexOf('('));
            due("README.md has an example of " + name, shown.contains(name), true);
        }
        end();
    }

    private static List<String> found(List<String> lines, Pattern pattern) {
        List<String> all = new ArrayList<>();
        for (String line : lines) {
            Matcher matcher = pattern.matcher(line);
            if (matcher.matches()) {
                all.add(matcher.group(1));
            }
        }
        return all;
    }

    /** Plays the lines of all Java examples; answers the names of the calls in them. */
    private static Set<String> playExamples(List<String> readme) throws ReflectiveOperationException {
        Set<String> shown = new TreeSet<>();
        boolean isExample = false;
        ReelOfBoxes x = null;
        for (String line : readme) {
            if (line.startsWith("```")) {
                isExample = line.equals("```java");
            } else if (isExample && line.equals(NEW_OBJECT)) {
                x = new ReelOfBoxes();
            } else if (isExample) {
                shown.add(playLine(x, line));
            }
        }
        return shown;
    }

    private static String playLine(ReelOfBoxes x, String line) throws ReflectiveOperationException {
        Matcher matcher = EXAMPLE_LINE.matcher(line);
        if (x == null || !matcher.matches()) {
            due("is an example that can be played: " + line, false, true);
            return "";
        }
        String want = matcher.group(3);
        Object got = call(x, matcher.group(1), matcher.group(2));
        due(line + " (answered " + got + ")", got.toString().equals(want), true);
        return matcher.group(1);
    }

    private static Object call(ReelOfBoxes x, String name, String arguments) throws ReflectiveOperationException {
        String[] written = arguments.isEmpty() ? new String[0] : arguments.split(", ");
        for (Method method : ReelOfBoxes.class.getMethods()) {
            if (method.getName().equals(name) && method.getParameterCount() == written.length) {
                return invoke(x, method, written);
            }
        }
        return "nothing: there is no such call";
    }

    private static Object invoke(ReelOfBoxes x, Method method, String[] written) throws ReflectiveOperationException {
        Object[] values = new Object[written.length];
        for (int i = 0; i < written.length; i++) {
            // A long may be written with an L, an int may not.
            boolean isLong = method.getParameterTypes()[i] == long.class;
            values[i] = isLong ? (Object) Long.decode(written[i].replace("L", "")) : (Object) Integer.decode(written[i]);
        }
        try {
            return method.invoke(x, values);
        } catch (InvocationTargetException thrown) {
            return thrown.getCause();
        }
    }
}
