import java.lang.reflect.Method;
import java.lang.reflect.Modifier;
import java.nio.file.Files;
import java.nio.file.Path;
import java.util.Arrays;
import java.util.Set;
import java.util.TreeSet;
import java.util.regex.Matcher;
import java.util.regex.Pattern;

/** README.md: its example answers what it says, and no call of the class is left out. */
public final class ReadmeTest {
    private static final Path README = Path.of("README.md");
    private static final Pattern EXAMPLE = Pattern.compile("(?s)```java\n(.*?)```");
    private static final Pattern MADE = Pattern.compile("TinyModels x = new TinyModels\\(\\);");
    private static final Pattern CALL = Pattern.compile("x\\.(\\w+)\\(([-0-9, ]*)\\); +// (-?\\d+)\\b.*");
    private static final Pattern TOLD = Pattern.compile("(?m)^\\| `(\\w+)\\(([\\w, ]*)\\)` +\\|");

    private static int wrong = 0;

    private static void check(String what, boolean kept) {
        if (!kept) {
            wrong++;
            System.out.println("README.md: " + what);
        }
    }

    /** The class has one method of each name, so that the name and the arguments tell the call. */
    private static Method method(String name, int arguments) throws NoSuchMethodException {
        Class<?>[] types = new Class<?>[arguments];
        Arrays.fill(types, int.class);
        return TinyModels.class.getMethod(name, types);
    }

    private static Object[] numbers(String text) {
        if (text.isBlank()) {
            return new Object[0];
        }
        String[] parts = text.split(",");
        Object[] result = new Object[parts.length];
        for (int i = 0; i < parts.length; i++) {
            result[i] = Integer.valueOf(parts[i].trim());
        }
        return result;
    }

    /** Makes the calls of the example one after the other, and answers their names. */
    private static Set<String> example(String text) throws ReflectiveOperationException {
        Set<String> shown = new TreeSet<>();
        TinyModels x = null;
        for (String line : text.split("\n")) {
            Matcher call = CALL.matcher(line);
            if (MADE.matcher(line).matches()) {
                x = new TinyModels();
            } else if (call.matches()) {
                Object[] arguments = numbers(call.group(2));
                Object got = method(call.group(1), arguments.length).invoke(x, arguments);
                shown.add(call.group(1));
                check(line + " answered " + got, got.equals(Integer.valueOf(call.group(3))));
            } else {
                check("a line without a call and its answer: " + line, line.isBlank() || line.startsWith("//"));
            }
        }
        return shown;
    }

    private static Set<String> told(String text) throws ReflectiveOperationException {
        Set<String> names = new TreeSet<>();
        Matcher call = TOLD.matcher(text);
        while (call.find()) {
            String name = call.group(1);
            int arguments = call.group(2).isBlank() ? 0 : call.group(2).split(",").length;
            if (!name.equals("TinyModels")) {
                method(name, arguments);
            }
            check("told twice: " + name, names.add(name));
        }
        return names;
    }

    private static Set<String> calls() {
        Set<String> names = new TreeSet<>();
        for (Method method : TinyModels.class.getDeclaredMethods()) {
            if (Modifier.isPublic(method.getModifiers())) {
                names.add(method.getName());
            }
        }
        return names;
    }

    public static void main(String[] args) throws Exception {
        String text = Files.readString(README);
        Matcher found = EXAMPLE.matcher(text);
        Set<String> shown = new TreeSet<>();
        while (found.find()) {
            shown.addAll(example(found.group(1)));
        }
        Set<String> calls = calls();
        check("the example shows " + shown + ", the calls are " + calls, shown.equals(calls));
        calls.add("TinyModels");
        Set<String> told = told(text);
        check("the tables tell " + told + ", the calls are " + calls, told.equals(calls));
        check("how to run the tests", text.contains("\n.ci/run\n"));
        System.out.println(wrong == 0 ? "all answers are as due" : wrong + " faults");
        if (wrong != 0) {
            System.exit(1);
        }
    }
}
