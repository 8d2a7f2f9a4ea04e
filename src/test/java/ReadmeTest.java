import java.io.IOException;
import java.lang.reflect.Method;
import java.lang.reflect.Modifier;
import java.nio.file.Files;
import java.nio.file.Path;
import java.util.ArrayList;
import java.util.List;
import java.util.Set;
import java.util.TreeSet;
import java.util.regex.Matcher;
import java.util.regex.Pattern;
import java.util.stream.Collectors;
import java.util.stream.Stream;

/** README.md says how the class is used and how its tests are run, and what it says is so. */
public final class ReadmeTest {
    private static final Due DUE = new Due("ReadmeTest");
    private static final Path README = Path.of("README.md");
    private static final Path SCRIPT = Path.of(".ci/run");
    private static final Path TESTS = Path.of("src/test/java");
    private static final Pattern CALL = Pattern.compile("x\\.(\\w+)\\(([^)]*)\\);\\s*// (-?\\d+):.*");
    private static final Pattern COMMAND = Pattern.compile("javac? -.*");

    public static void main(String[] args) throws IOException, ReflectiveOperationException {
        DUE.holds("README.md is there", Files.isRegularFile(README));
        if (DUE.failed() == 0) {
            String page = Files.readString(README);
            DUE.holds("README.md is not empty", !page.isBlank());
            DUE.holds("it says how the class is used", page.contains("\n## Use\n"));
            DUE.holds("it says how the tests are run", page.contains("\n## Tests\n"));
            use(page);
            namesOfCalls(page);
            commands(page);
            namesOfTests(page);
        }
        DUE.end();
    }

    private static List<String> blockLines(String page, String kind) {
        List<String> lines = new ArrayList<>();
        Matcher m = Pattern.compile("```" + kind + "\n(.*?)```", Pattern.DOTALL).matcher(page);
        while (m.find()) {
            lines.addAll(List.of(m.group(1).split("\n")));
        }
        return lines;
    }

    private static void use(String page) throws ReflectiveOperationException {
        ChoirWires x = new ChoirWires();
        int calls = 0;
        for (String line : blockLines(page, "java")) {
            Matcher m = CALL.matcher(line);
            if (m.matches()) {
                calls++;
                DUE.is("as README.md says, " + m.group(1) + "(" + m.group(2) + ")",
                    answer(x, m.group(1), m.group(2)), Long.parseLong(m.group(3)));
            } else {
                DUE.holds("a call with its answer: " + line, line.isEmpty() || line.startsWith("ChoirWires x ="));
            }
        }
        DUE.holds("it shows calls: " + calls, calls > 0);
    }

    private static int answer(ChoirWires x, String name, String arguments) throws ReflectiveOperationException {
        String[] texts = arguments.isEmpty() ? new String[0] : arguments.split(", ");
        for (Method m : ChoirWires.class.getMethods()) {
            if (m.getName().equals(name) && m.getParameterCount() == texts.length) {
                Object[] values = new Object[texts.length];
                for (int i = 0; i < texts.length; i++) {
                    values[i] = value(m.getParameterTypes()[i], texts[i]);
                }
                return (Integer) m.invoke(x, values);
            }
        }
        throw new NoSuchMethodException(name);
    }

    private static Object value(Class<?> type, String text) {
        if (type == boolean.class) {
            return Boolean.valueOf(text);
        }
        return type == long.class ? (Object) Long.decode(text) : (Object) Integer.decode(text);
    }

    private static void namesOfCalls(String page) {
        for (Method m : ChoirWires.class.getDeclaredMethods()) {
            if (Modifier.isPublic(m.getModifiers())) {
                DUE.holds("README.md names the call " + m.getName(), page.contains("`" + m.getName() + "`"));
            }
        }
    }

    /** The commands that compile and run tests are the same ones here and there. */
    private static void commands(String page) throws IOException {
        List<String> told = blockLines(page, "sh");
        DUE.holds("it tells of .ci/run", told.contains(".ci/run"));
        DUE.holds(".ci/run can be run", Files.isExecutable(SCRIPT));
        Set<String> here = commandsOf(told);
        Set<String> there = commandsOf(Files.readAllLines(SCRIPT));
        DUE.holds("README.md tells " + here + ", .ci/run runs " + there, here.equals(there));
        DUE.is("commands, of own tests and of shared ones", there.size(), 4);
        String script = Files.readString(SCRIPT);
        for (String line : told) {
            boolean chosen = line.matches("name=\\w+Test") || line.startsWith("test=../shared/tests/");
            DUE.holds(".ci/run has: " + line, chosen || line.equals(".ci/run") || script.contains(line));
        }
    }

    private static Set<String> commandsOf(List<String> lines) {
        return lines.stream().map(String::trim).filter(s -> COMMAND.matcher(s).matches())
            .collect(Collectors.toCollection(TreeSet::new));
    }

    private static void namesOfTests(String page) throws IOException {
        Set<String> there = new TreeSet<>();
        try (Stream<Path> files = Files.list(TESTS)) {
            files.forEach(f -> there.add(f.getFileName().toString().replace(".java", "")));
        }
        for (String name : there) {
            DUE.holds("README.md names " + name, page.contains("`" + name + "`"));
        }
        Matcher m = Pattern.compile("`(\\w+Test)`").matcher(page);
        while (m.find()) {
            DUE.holds(m.group(1) + ", which README.md names, is there", there.contains(m.group(1)));
        }
    }
}
