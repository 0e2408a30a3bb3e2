import java.io.IOException;
import java.lang.reflect.Field;
import java.lang.reflect.Method;
import java.lang.reflect.Modifier;
import java.nio.file.Files;
import java.nio.file.Path;
import java.util.Arrays;
import java.util.Comparator;
import java.util.List;
import java.util.Map;
import java.util.Set;
import java.util.TreeMap;
import java.util.TreeSet;
import java.util.function.Consumer;
import java.util.regex.MatchResult;
import java.util.regex.Matcher;
import java.util.regex.Pattern;
import java.util.stream.Collectors;
import java.util.stream.Stream;

/** What README.md says is so of the class: its examples, its constants, its list of the calls, its list of tests. */
public final class ReadmeTest {
    private static final Pattern EXAMPLE = Pattern.compile("(?s)```java\n(.*?)```");
    private static final Pattern STEP = Pattern.compile("x\\.(\\w+)\\((.*?)\\); +// (-?\\w+)(: .*)?");
    private static final Pattern CONSTANT = Pattern.compile("(?m)^- `([A-Z]+)` \\((-?\\d+)\\): ");
    private static final Pattern CALL = Pattern.compile("(?ms)^- `([a-z]\\w*)\\((.*?)\\)`( \\+)?: (.*?)(?=^- |\n\n)");
    private static final Pattern REFUSAL = Pattern.compile("`(UNKNOWN|OUTSIDE|STATE|FULL)`");
    private static final Pattern TEST = Pattern.compile("(?m)^\\| `(\\w+)` \\|");

    private static final Comparator<String> AS_TOLD = Comparator.comparing(name -> -constants().get(name));

    /** What of each call was seen as it was tried: the refusals that it answered, and whether it took TIME. */
    private record Seen(Set<String> refusals, Set<String> marks) {
    }

    private ReadmeTest() {
    }

    public static void main(String[] args) throws IOException, ReflectiveOperationException {
        String page = Files.readString(Path.of("README.md"));
        theExamples(page);
        theConstants(page);
        theCalls(page);
        theTests(page);
        Due.finish();
    }

    private static void theExamples(String page) throws ReflectiveOperationException {
        int examples = 0;
        for (MatchResult example : found(EXAMPLE, page)) {
            examples++;
            String[] lines = example.group(1).split("\n");
            Due.due("a new object", lines[0].equals("ShootDown x = new ShootDown();"));
            Subject x = new Subject();
            for (int i = 1; i < lines.length; i++) {
                Matcher step = STEP.matcher(lines[i]);
                Due.due("a call and its answer: " + lines[i], step.matches());
                Due.due(lines[i], call(x, step.group(1), step.group(2)), numberOf(step.group(3)));
            }
        }
        Due.due("there are examples", examples > 0);
    }

    private static long call(Face x, String name, String numbers) throws ReflectiveOperationException {
        Method method = Arrays.stream(Face.class.getDeclaredMethods()).filter(m -> m.getName().equals(name))
            .findFirst().orElseThrow(() -> new NoSuchMethodException(name));
        Object[] arguments = Arrays.stream(numbers.split(", ")).filter(n -> !n.isEmpty())
            .map(n -> n.matches("true|false") ? (Object) Boolean.valueOf(n) : Integer.valueOf(n)).toArray();
        return ((Number) method.invoke(x, arguments)).longValue();
    }

    private static long numberOf(String answer) {
        return answer.matches("-?\\d+") ? Long.parseLong(answer) : constants().getOrDefault(answer, Integer.MIN_VALUE);
    }

    private static Map<String, Integer> constants() {
        Map<String, Integer> constants = new TreeMap<>();
        for (Field field : ShootDown.class.getFields()) {
            try {
                constants.put(field.getName(), field.getInt(null));
            } catch (IllegalAccessException e) {
                Due.due(field.getName() + " can be read", false);
            }
        }
        return constants;
    }

    private static void theConstants(String page) {
        Map<String, Integer> told = new TreeMap<>();
        for (MatchResult constant : found(CONSTANT, page)) {
            told.put(constant.group(1), Integer.valueOf(constant.group(2)));
        }
        alike("constants", told.toString(), constants().toString());
    }

    /** Each call is told once, with its refusals in their order, and marked where it takes TIME. */
    private static void theCalls(String page) {
        Map<String, String> told = new TreeMap<>();
        for (MatchResult call : found(CALL, page)) {
            String refusals = found(REFUSAL, call.group(4)).stream().map(r -> r.group(1))
                .collect(Collectors.joining(", "));
            String mark = call.group(3) == null ? "" : " +";
            Due.due(call.group(1) + " is told once", told.put(call.group(1), refusals + mark) == null);
            Due.due("parameters of " + call.group(1), call.group(2).split(", ").length, parametersOf(call.group(1)));
        }
        Map<String, Seen> seen = tryAll();
        alike("calls", told.keySet().toString(), methods().toString());
        alike("calls tried", seen.keySet().toString(), methods().toString());
        seen.forEach((name, one) -> {
            String refusals = one.refusals().stream().sorted(AS_TOLD).collect(Collectors.joining(", "));
            alike(name, told.getOrDefault(name, "nothing"), refusals + String.join("", one.marks()));
        });
    }

    /** A call without any is told as one of "". */
    private static long parametersOf(String name) {
        return Arrays.stream(ShootDown.class.getDeclaredMethods()).filter(m -> m.getName().equals(name))
            .mapToLong(m -> Math.max(1, m.getParameterCount())).sum();
    }

    private static Set<String> methods() {
        return Arrays.stream(ShootDown.class.getDeclaredMethods()).filter(m -> Modifier.isPublic(m.getModifiers()))
            .map(Method::getName).collect(Collectors.toCollection(TreeSet::new));
    }

    private static Map<String, Seen> tryAll() {
        Map<String, Seen> seen = new TreeMap<>();
        for (Consumer<Face> state : Edges.states().values()) {
            for (Call call : Edges.calls()) {
                String name = call.text().replaceAll("\\(.*", "");
                tryOne(state, call, seen.computeIfAbsent(name, n -> new Seen(new TreeSet<>(), new TreeSet<>())));
            }
        }
        return seen;
    }

    private static void tryOne(Consumer<Face> state, Call call, Seen seen) {
        Subject x = new Subject();
        state.accept(x);
        int time = x.count(1);
        long answer = call.of(x);
        if (x.count(1) > time) {
            seen.marks().add(" +");
        }
        constants().forEach((name, number) -> {
            if (answer == number && REFUSAL.matcher("`" + name + "`").matches()) {
                seen.refusals().add(name);
            }
        });
    }

    private static void theTests(String page) throws IOException {
        Set<String> told = new TreeSet<>();
        for (MatchResult test : found(TEST, page)) {
            Due.due(test.group(1) + " is told once", told.add(test.group(1)));
        }
        try (Stream<Path> files = Files.list(Path.of("src/test/java"))) {
            Set<String> tests = files.map(file -> file.getFileName().toString()).filter(n -> n.endsWith("Test.java"))
                .map(n -> n.replace(".java", "")).collect(Collectors.toCollection(TreeSet::new));
            alike("tests", told.toString(), tests.toString());
        }
    }

    private static List<MatchResult> found(Pattern pattern, String text) {
        return pattern.matcher(text).results().collect(Collectors.toList());
    }

    private static void alike(String what, String told, String due) {
        Due.due(what + ": README.md tells " + told + ", it is " + due, told.equals(due));
    }
}
