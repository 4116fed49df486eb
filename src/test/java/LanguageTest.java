import java.lang.reflect.Constructor;
import java.lang.reflect.Field;
import java.lang.reflect.Method;
import java.lang.reflect.Modifier;
import java.nio.file.Files;
import java.nio.file.Path;
import java.util.Arrays;
import java.util.Set;
import java.util.TreeSet;
import java.util.regex.Matcher;
import java.util.regex.Pattern;

/** The rules of LANGUAGE.md that a program can look at: the face, the words, the lengths. */
public final class LanguageTest {
    private static final String[] FACE = {"feed int int int int int int", "back int int", "read int", "place int",
        "part int int int", "worker int int int", "minute int int int", "free int int int", "when int int int",
        "send int int int", "cross boolean int", "mend int int int", "undo boolean", "seen int int", "photo int int",
        "bestMinute int", "stays int int int", "plan int int int int", "planAt int int int int",
        "two int int int int int", "hands int int int", "spare int int int", "quickest int int int",
        "mends int int int int", "after int int int int", "window int int int boolean", "large int int",
        "hopes int int int int", "hope int int int", "dog int int int", "error int int boolean", "fails int int",
        "tell int int int boolean", "forget int", "late int int int", "hold boolean int", "restore boolean int",
        "count int int"};
    private static final int MOST_CLASSES = 12;
    private static final int MOST_FIELDS = 20;
    private static final int MOST_LINES = 60;
    private static final int MOST_PARAMETERS = 7;

    private LanguageTest() {
    }

    public static void main(String[] args) throws Exception {
        face();
        classes();
        source();
        Bench.end();
    }

    private static void face() {
        Set<String> open = new TreeSet<>();
        for (Method method : TideRakes.class.getDeclaredMethods()) {
            if (!Modifier.isPrivate(method.getModifiers())) {
                StringBuilder one = new StringBuilder(method.getName()).append(' ').append(method.getReturnType().getName());
                for (Class<?> type : method.getParameterTypes()) {
                    one.append(' ').append(type.getName());
                }
                open.add(one.toString());
                Bench.due("public " + one, method.getModifiers(), Modifier.PUBLIC);
            }
        }
        Set<String> due = new TreeSet<>(Arrays.asList(FACE));
        Bench.due("the face " + open, open.equals(due), true);
        Bench.due("class", TideRakes.class.getModifiers(), Modifier.PUBLIC | Modifier.FINAL);
        for (Constructor<?> one : TideRakes.class.getDeclaredConstructors()) {
            Bench.due("constructor", one.getModifiers() == Modifier.PUBLIC && one.getParameterCount() == 0, true);
        }
        for (Field field : TideRakes.class.getDeclaredFields()) {
            boolean constant = field.getName().equals("NONE");
            Bench.due("field " + field, Modifier.isPublic(field.getModifiers()), constant);
            Bench.due("field " + field, Modifier.isPrivate(field.getModifiers()), !constant);
        }
    }

    private static void classes() {
        Class<?>[] inner = TideRakes.class.getDeclaredClasses();
        Bench.due("classes", inner.length + 1 <= MOST_CLASSES, true);
        Set<String> names = new TreeSet<>();
        for (String one : FACE) {
            names.add(one.substring(0, one.indexOf(' ')));
        }
        for (Class<?> type : inner) {
            Bench.due("static " + type, Modifier.isStatic(type.getModifiers()), true);
            for (Method method : type.getDeclaredMethods()) {
                Bench.due("a name of the face: " + method, names.contains(method.getName()), false);
            }
            fields(type);
        }
        fields(TideRakes.class);
        for (Method method : TideRakes.class.getDeclaredMethods()) {
            boolean bears = names.contains(method.getName()) && Modifier.isPrivate(method.getModifiers());
            Bench.due("a private one by a name of the face: " + method, bears, false);
        }
    }

    private static void fields(Class<?> type) {
        int fields = 0;
        for (Field field : type.getDeclaredFields()) {
            boolean fixed = Modifier.isStatic(field.getModifiers());
            fields += fixed ? 0 : 1;
            Bench.due("static and not final " + field, fixed && !Modifier.isFinal(field.getModifiers()), false);
        }
        Bench.due("fields of " + type, fields <= MOST_FIELDS, true);
    }

    private static void source() throws Exception {
        String code = Files.readString(Path.of("src/main/java/TideRakes.java"));
        code = code.replaceAll("(?s)/\\*.*?\\*/", "").replaceAll("//.*", "").replaceAll("\"[^\"\n]*\"", "\"\"");
        String[] no = {"\\bthrows?\\b", "\\btry\\b", "\\bcatch\\b", "\\bfinally\\b", "\\bsynchronized\\b", "\\bassert\\b", "->", "::",
            "\\bpackage\\b", "\\bprotected\\b", "\\bstatic \\{", "Exact\\b", "System\\.(?!arraycopy)", "\\bdouble\\b", "\\bfloat\\b",
            "\\bnull\\b", "import (?!java\\.util\\.Arrays;)", "Arrays\\.(?!fill|copyOf)", "\\bString\\[", "while \\(true", "for \\(;;"};
        for (String one : no) {
            Bench.due("found " + one, Pattern.compile(one).matcher(code).find(), false);
        }
        methods(code);
    }

    private static void methods(String code) {
        Matcher head = Pattern.compile("\n( +)(?:[\\w\\[\\]]+ )+\\w+\\(([^()]*)\\) \\{\n").matcher(code);
        int methods = 0;
        while (head.find()) {
            String start = "\n" + head.group(1);
            int end = code.indexOf(start + "}", head.end() - 1);
            long lines = code.substring(head.start() + 1, end).lines().count() + 1;
            Bench.due("lines of " + head.group().trim(), lines <= MOST_LINES, true);
            int parameters = head.group(2).isEmpty() ? 0 : head.group(2).split(",").length;
            Bench.due("parameters of " + head.group().trim(), parameters <= MOST_PARAMETERS, true);
            methods++;
        }
        Bench.due("methods were found", methods > FACE.length, true);
    }
}
