import java.lang.reflect.Method;
import java.lang.reflect.Modifier;
import java.nio.ByteBuffer;
import java.nio.charset.StandardCharsets;
import java.nio.file.Files;
import java.nio.file.Path;
import java.util.HashMap;
import java.util.Map;
import java.util.regex.Matcher;
import java.util.regex.Pattern;

/** README.md tells how to use the class: its text is read by its own lines, its calls answer what it says, none is left out. */
public final class ReadmeTest {
    private static final Pattern ROW = Pattern.compile("(?m)^\\| `(\\w+)\\(([^)]*)\\)` \\| (\\S+) \\|");

    private ReadmeTest() {
    }

    public static void main(String[] args) throws ReflectiveOperationException, java.io.IOException {
        String readme = Files.readString(Path.of("README.md"));
        String source = Files.readString(Path.of("src/test/java/ReadmeTest.java"));
        Bench.due("the lines that feed a text are those tried here", bare(source).contains(bare(block(readme, "java"))), true);
        Map<String, Method> open = openMethods();
        TideRakes rakes = new TideRakes();
        Bench.due("the text of README.md", tellDay(rakes, block(readme, "text")), 0);
        Map<String, Method> left = new HashMap<>(open);
        Matcher row = ROW.matcher(readme);
        while (row.find()) {
            left.remove(row.group(1));
            tryRow(rakes, open.get(row.group(1)), row);
        }
        Bench.due("calls that README.md leaves out " + left.keySet(), left.size(), 0);
        Bench.end();
    }

    static int tellDay(TideRakes rakes, String text) {
        int blanks = (20 - text.length() % 20) % 20;
        ByteBuffer bytes = ByteBuffer.wrap((text + " ".repeat(blanks)).getBytes(StandardCharsets.ISO_8859_1));
        while (bytes.remaining() >= 20) {
            rakes.feed(bytes.getInt(), bytes.getInt(), bytes.getInt(), bytes.getInt(), bytes.getInt());
        }
        rakes.back(blanks);
        return rakes.read();
    }

    private static void tryRow(TideRakes rakes, Method method, Matcher row) throws ReflectiveOperationException {
        String call = row.group(1) + "(" + row.group(2) + ")";
        Bench.due(call + " is a call of the class", method != null, true);
        if (method != null) {
            String answer = String.valueOf(method.invoke(rakes, values(method, row.group(2))));
            Bench.due("README.md: " + call + " answered " + answer + ", there stands " + row.group(3), answer.equals(row.group(3)), true);
        }
    }

    private static Object[] values(Method method, String told) {
        String[] words = told.isEmpty() ? new String[0] : told.split(", ");
        Object[] values = new Object[words.length];
        for (int i = 0; i < words.length; i++) {
            boolean number = method.getParameterTypes()[i] == int.class;
            values[i] = number ? (Object) Integer.valueOf(words[i]) : Boolean.valueOf(words[i]);
        }
        return values;
    }

    private static Map<String, Method> openMethods() {
        Map<String, Method> open = new HashMap<>();
        for (Method method : TideRakes.class.getDeclaredMethods()) {
            if (Modifier.isPublic(method.getModifiers())) {
                open.put(method.getName(), method);
            }
        }
        return open;
    }

    private static String block(String readme, String kind) {
        int start = readme.indexOf("```" + kind + "\n") + kind.length() + 4;
        return readme.substring(start, readme.indexOf("```", start));
    }

    private static String bare(String code) {
        return code.replaceAll("\\s+", " ");
    }
}
