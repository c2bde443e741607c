import java.lang.reflect.Constructor;
import java.lang.reflect.Field;
import java.lang.reflect.Method;
import java.lang.reflect.Modifier;
import java.nio.file.Files;
import java.nio.file.Path;
import java.util.ArrayList;
import java.util.Arrays;
import java.util.LinkedHashMap;
import java.util.List;
import java.util.Map;
import java.util.Set;
import java.util.TreeSet;
import java.util.regex.Matcher;
import java.util.regex.Pattern;

/** The document's public face, and the rules of LANGUAGE.md that a look at the class or its text can tell. */
public final class LanguageTest {
    private static final Path PROGRAM = Path.of("src/main/java/TinyModels.java");
    private static final int MOST_DEEP = 6;
    private static final int MOST_LINES = 60;

    private static final Set<String> FACE = Set.of(
        "int domain(int)", "int token(int, int)", "int drop()", "int axiom()", "int retract(int)",
        "int models()", "int next(int)", "int isModel(int)", "int shapes()", "int sameShape(int, int)",
        "int symmetries(int)", "int forced(int)", "int holds(int, int)", "int lists(int)", "int follows()",
        "int agreeing()", "int alike()", "int independent(int)", "int smallest()");

    private static int wrong = 0;

    private static void check(String rule, boolean kept) {
        if (!kept) {
            wrong++;
            System.out.println("not kept: " + rule);
        }
    }

    private static void face() {
        Class<TinyModels> face = TinyModels.class;
        check("rule 1: public and final", Modifier.isPublic(face.getModifiers()) && Modifier.isFinal(face.getModifiers()));
        check("rule 1: no nested class", face.getDeclaredClasses().length == 0);
        Constructor<?>[] made = face.getDeclaredConstructors();
        check("the one public constructor", made.length == 1 && made[0].getParameterCount() == 0
            && Modifier.isPublic(made[0].getModifiers()));
        Set<String> open = new TreeSet<>();
        Set<String> openNames = new TreeSet<>();
        Set<String> closedNames = new TreeSet<>();
        for (Method method : face.getDeclaredMethods()) {
            if (Modifier.isPrivate(method.getModifiers())) {
                closedNames.add(method.getName());
            } else {
                check("rule 1: " + method + " is public", Modifier.isPublic(method.getModifiers()));
                check("the face: " + method + " is not static", !Modifier.isStatic(method.getModifiers()));
                String parameters = Arrays.toString(method.getParameterTypes());
                open.add(method.getReturnType() + " " + method.getName()
                    + parameters.replace('[', '(').replace(']', ')'));
                openNames.add(method.getName());
            }
            check("rule 10: parameters of " + method, method.getParameterCount() <= 7);
        }
        check("the face is the document's, not " + open, open.equals(FACE));
        closedNames.retainAll(openNames);
        check("rule 1: private methods with public names: " + closedNames, closedNames.isEmpty());
        fields(face);
    }

    private static void fields(Class<TinyModels> face) {
        int count = 0;
        for (Field field : face.getDeclaredFields()) {
            check("rule 1: " + field + " is private", Modifier.isPrivate(field.getModifiers()));
            if (Modifier.isStatic(field.getModifiers())) {
                check("rule 5: " + field, field.getType() == int.class || field.getType() == long.class);
            } else {
                count++;
            }
        }
        check("rule 10: at most forty fields", count <= 40);
    }

    private static void words(String text) {
        String barred = "package|import|float|double|String|Math|Integer|System|Arrays|Object|null|throw|throws|try|catch"
            + "|synchronized|assert|instanceof|interface|enum|record|protected|this|super|void\\s+main";
        Matcher word = Pattern.compile("\\b(" + barred + ")\\b|->|::|\\]\\s*\\[").matcher(text);
        while (word.find()) {
            check("rules 1, 2, 3, 6: " + word.group(), false);
        }
        Matcher made = Pattern.compile("\\bnew\\b.*").matcher(text);
        while (made.find()) {
            check("rule 4: " + made.group(), made.group().matches("new int\\[[A-Z_]+\\];"));
        }
    }

    /** The bodies of the methods by their names. */
    private static Map<String, String> bodies(String text) {
        Map<String, String> result = new LinkedHashMap<>();
        Pattern method = Pattern.compile("(?ms)^    (?:public|private)[^;={]*?(\\w+)\\([^)]*\\) \\{\n(.*?)^    \\}");
        Matcher found = method.matcher(text);
        while (found.find()) {
            result.put(found.group(1), found.group(2));
        }
        return result;
    }

    private static void calls(String text) {
        Map<String, String> bodies = bodies(text);
        check("all methods are found in the text", bodies.size() == TinyModels.class.getDeclaredMethods().length + 1);
        for (String name : bodies.keySet()) {
            check("rule 10: length of " + name, bodies.get(name).lines().count() <= MOST_LINES);
            deep(bodies, name, new ArrayList<>());
        }
    }

    private static void deep(Map<String, String> bodies, String name, List<String> path) {
        boolean again = path.contains(name);
        List<String> longer = new ArrayList<>(path);
        longer.add(name);
        check("rule 8, no recursion: " + longer, !again);
        check("rule 10, calls at most six deep: " + longer, again || longer.size() <= MOST_DEEP);
        if (again) {
            return;
        }
        Set<String> called = new TreeSet<>();
        Matcher call = Pattern.compile("\\b(\\w+)\\(").matcher(bodies.get(name));
        while (call.find()) {
            if (bodies.containsKey(call.group(1))) {
                called.add(call.group(1));
            }
        }
        for (String next : called) {
            deep(bodies, next, longer);
        }
    }

    private static void callsInArguments(String text) {
        for (String body : bodies(text).values()) {
            Matcher call = Pattern.compile("\\b(?!if\\b|for\\b|while\\b|switch\\b|return\\b)\\w+\\(").matcher(body);
            while (call.find()) {
                int depth = 1;
                int end = call.end();
                while (depth > 0) {
                    char c = body.charAt(end++);
                    depth += c == '(' ? 1 : c == ')' ? -1 : 0;
                }
                String inside = body.substring(call.end(), end);
                check("rule 10, a call in arguments: " + call.group() + inside,
                    !Pattern.compile("\\w\\(").matcher(inside).find());
            }
        }
    }

    public static void main(String[] args) throws Exception {
        face();
        String text = Files.readString(PROGRAM).replaceAll("(?s)/\\*.*?\\*/", "").replaceAll("//.*", "");
        words(text);
        calls(text);
        callsInArguments(text);
        System.out.println(wrong == 0 ? "all rules are kept" : wrong + " rules are not kept");
        if (wrong != 0) {
            System.exit(1);
        }
    }
}
