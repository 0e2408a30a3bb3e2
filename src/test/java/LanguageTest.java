import java.io.IOException;
import java.lang.reflect.Constructor;
import java.lang.reflect.Field;
import java.lang.reflect.Member;
import java.lang.reflect.Method;
import java.lang.reflect.Modifier;
import java.nio.file.Files;
import java.nio.file.Path;
import java.util.Arrays;
import java.util.List;
import java.util.Map;
import java.util.Set;
import java.util.TreeSet;
import java.util.regex.Matcher;
import java.util.regex.Pattern;
import java.util.stream.Collectors;

/** The document's public face, and the rules of LANGUAGE.md that can be seen from the class and from its text. */
public final class LanguageTest {
    private static final Map<String, Integer> CONSTANTS =
        Map.of("NONE", -1, "UNKNOWN", -101, "OUTSIDE", -102, "STATE", -103, "FULL", -104, "FAULT", -105);

    private static final Set<String> METHODS = Set.of(
        "int cores(int)", "int map(int, int, int, boolean)", "int entry(int, int)", "int enter(int, int)",
        "int sleep(int)", "int wake(int)", "int look(int, int, boolean)", "int how()", "int note(int, int, int)",
        "int wasSo(int, int)", "int unmap(int, int, int)", "int remap(int, int, int, int, boolean)",
        "int clear(int, int)", "int take(int)", "int rounds(int, int)", "int shoot(int, int)", "int underWay(int)",
        "int core(int, int)", "int history(int, int, int)", "int seen()", "int danger(int, int)", "int count(int)",
        "long digest()");

    private static final int LONGEST_METHOD = 60;
    private static final int MOST_PARAMETERS = 7;
    private static final int MOST_CLASSES = 12;
    private static final int MOST_FIELDS = 20;

    private LanguageTest() {
    }

    public static void main(String[] args) throws IOException {
        theFace();
        theClassesInside();
        theText(Files.readAllLines(Path.of("src/main/java/ShootDown.java")));
        Due.finish();
    }

    private static void theFace() {
        Due.due("public and final", ShootDown.class.getModifiers(), Modifier.PUBLIC | Modifier.FINAL);
        int constants = 0;
        for (Field field : ShootDown.class.getDeclaredFields()) {
            if (!Modifier.isPrivate(field.getModifiers())) {
                constants++;
                Due.due(field.getName() + " is the document's", CONSTANTS.containsKey(field.getName()));
                Due.due(field.getName(), valueOf(field), CONSTANTS.getOrDefault(field.getName(), 0));
            }
        }
        Due.due("constants", constants, CONSTANTS.size());
        Constructor<?>[] constructors = ShootDown.class.getDeclaredConstructors();
        Due.due("constructors", constructors.length, 1);
        Due.due("without parameters", constructors[0].getParameterCount(), 0);
        Due.due("public", constructors[0].getModifiers(), Modifier.PUBLIC);
        Set<String> told = new TreeSet<>();
        for (Method method : ShootDown.class.getDeclaredMethods()) {
            if (!Modifier.isPrivate(method.getModifiers())) {
                Due.due(method.getName() + " is public", method.getModifiers(), Modifier.PUBLIC);
                told.add(faceOf(method));
            }
        }
        Due.due("the methods are the document's: " + told, told.equals(METHODS));
    }

    private static long valueOf(Field field) {
        try {
            boolean constant = field.getModifiers() == (Modifier.PUBLIC | Modifier.STATIC | Modifier.FINAL);
            return constant && field.getType() == int.class ? field.getInt(null) : Long.MIN_VALUE;
        } catch (IllegalAccessException e) {
            return Long.MIN_VALUE;
        }
    }

    private static String faceOf(Method method) {
        String parameters = Arrays.stream(method.getParameterTypes()).map(Class::getSimpleName)
            .collect(Collectors.joining(", "));
        return method.getReturnType().getSimpleName() + " " + method.getName() + "(" + parameters + ")";
    }

    private static void theClassesInside() {
        Set<String> publicNames = METHODS.stream().map(face -> face.replaceAll("^\\w+ |\\(.*", ""))
            .collect(Collectors.toSet());
        Class<?>[] inside = ShootDown.class.getDeclaredClasses();
        Due.due("classes", inside.length + 1 <= MOST_CLASSES);
        theMembers(ShootDown.class, publicNames);
        for (Class<?> one : inside) {
            Due.due(one + " is static", Modifier.isStatic(one.getModifiers()));
            Due.due(one + " is not public", (one.getModifiers() & (Modifier.PUBLIC | Modifier.PROTECTED)) == 0);
            theMembers(one, publicNames);
        }
    }

    private static void theMembers(Class<?> one, Set<String> publicNames) {
        List<Field> fields = List.of(one.getDeclaredFields());
        Due.due(one + ": fields", fields.stream().filter(f -> !isStatic(f)).count() <= MOST_FIELDS);
        Due.due(one + ": static fields are final",
            fields.stream().filter(LanguageTest::isStatic).allMatch(f -> Modifier.isFinal(f.getModifiers())));
        for (Method method : one.getDeclaredMethods()) {
            Due.due(method + ": parameters", method.getParameterCount() <= MOST_PARAMETERS);
            if (Modifier.isPrivate(method.getModifiers())) {
                Due.due(method + ": its own name", !publicNames.contains(method.getName()));
            }
        }
    }

    private static boolean isStatic(Member member) {
        return Modifier.isStatic(member.getModifiers());
    }

    /** What a program can see of the rules in the text, comments left out. */
    private static void theText(List<String> lines) {
        String code = lines.stream().filter(line -> !line.matches("\\s*(//|/?\\*).*"))
            .collect(Collectors.joining("\n"));
        none(code, "\\b(package|throw|throws|try|catch|finally|synchronized|assert|native|volatile)\\b");
        none(code, "::|@(?!Override)|[^\\x00-\\x7f]");
        none(code, "(?m)^(?! *(case|default)\\b).*->");
        none(code, "import (?!java\\.util\\.(Arrays|ArrayList|List|Iterator);)");
        none(code, "\\bSystem\\.(?!arraycopy\\b)|\\bArrays\\.(?!fill\\b|copyOf\\b|copyOfRange\\b)|\\b\\w+Exact\\b");
        none(code, "\\bstatic \\{");
        for (String row : rowsOfNoNumbers(code)) {
            none(code, "\\bArrays\\.\\w+\\((\\w+\\.)?" + row + "\\b");
        }
        methodsAreShort(lines);
    }

    private static Set<String> rowsOfNoNumbers(String code) {
        Matcher found = Pattern.compile("\\b(boolean|[A-Z]\\w*)\\[\\] (\\w+)").matcher(code);
        return found.results().map(row -> row.group(2)).collect(Collectors.toSet());
    }

    private static void none(String code, String banned) {
        Matcher found = Pattern.compile(banned).matcher(code);
        Due.due("in the text: " + (found.find() ? found.group() : banned), !found.reset().find());
    }

    private static void methodsAreShort(List<String> lines) {
        int start = -1;
        for (int i = 0; i < lines.size(); i++) {
            if (lines.get(i).matches(" +(public|private) (static )?(\\w+ )?\\w+\\(.*\\) \\{")) {
                start = i;
            }
            if (start >= 0 && lines.get(i).equals(lines.get(start).replaceAll("\\S.*", "") + "}")) {
                Due.due("length of" + lines.get(start), i - start < LONGEST_METHOD);
                start = -1;
            }
        }
    }
}
