import java.io.IOException;
import java.lang.reflect.Method;
import java.lang.reflect.Modifier;
import java.nio.file.Files;
import java.nio.file.Path;
import java.util.Arrays;
import java.util.Set;
import java.util.TreeSet;
import java.util.regex.Matcher;
import java.util.regex.Pattern;

/** The calls of README.md's example answer what stands beside them, and its text names every call of the face. */
public final class ReadmeTest {
    private static final Pattern MADE = Pattern.compile("FoldedGroups groups = new FoldedGroups\\((\\d+)\\);.*");
    private static final Pattern CALL =
        Pattern.compile("groups\\.(\\w+)\\(([-\\d, ]*)\\);\\s*// (-?\\d+|true|false)\\b.*");

    private static int wrong = 0;
    private static FoldedGroups groups = null;

    public static void main(String[] args) throws IOException, ReflectiveOperationException {
        String text = Files.readString(Path.of("README.md"));
        String example = text.substring(text.indexOf("```java") + 7);
        int calls = 0;
        for (String line : example.substring(0, example.indexOf("```")).strip().split("\n")) {
            Matcher made = MADE.matcher(line);
            Matcher call = CALL.matcher(line);
            if (made.matches()) {
                groups = new FoldedGroups(Integer.parseInt(made.group(1)));
            } else if (groups != null && call.matches()) {
                compare(line, answer(call.group(1), call.group(2)), call.group(3));
                calls++;
            } else {
                report("no call with its answer: " + line);
            }
        }
        for (String name : names()) {
            if (!text.contains("`" + name + "(")) {
                report("the table does not name " + name);
            }
        }
        System.out.println(wrong == 0 ? calls + " calls are as README.md says" : wrong + " things are not as due");
        System.exit(wrong == 0 && calls > 0 ? 0 : 1);
    }

    private static Set<String> names() {
        Set<String> names = new TreeSet<>();
        for (Method method : FoldedGroups.class.getDeclaredMethods()) {
            if (Modifier.isPublic(method.getModifiers())) {
                names.add(method.getName());
            }
        }
        return names;
    }

    private static String answer(String name, String list) throws ReflectiveOperationException {
        Object[] with = Arrays.stream(list.split(",")).map(String::strip).filter(item -> !item.isEmpty())
            .map(Integer::valueOf).toArray();
        Class<?>[] types = new Class<?>[with.length];
        Arrays.fill(types, int.class);
        return String.valueOf(FoldedGroups.class.getMethod(name, types).invoke(groups, with));
    }

    private static void compare(String line, String got, String due) {
        if (!got.equals(due)) {
            report("answered " + got + ": " + line);
        }
    }

    private static void report(String what) {
        wrong++;
        System.out.println(what);
    }
}
