import java.io.IOException;
import java.io.StringWriter;
import java.lang.reflect.InvocationTargetException;
import java.lang.reflect.Method;
import java.net.URI;
import java.net.URL;
import java.net.URLClassLoader;
import java.nio.file.Files;
import java.nio.file.Path;
import java.util.ArrayList;
import java.util.Arrays;
import java.util.Comparator;
import java.util.List;
import java.util.Set;
import java.util.TreeSet;
import java.util.function.ObjIntConsumer;
import java.util.regex.Matcher;
import java.util.regex.Pattern;
import java.util.stream.Collectors;
import java.util.stream.Stream;
import javax.tools.JavaCompiler;
import javax.tools.JavaFileObject;
import javax.tools.SimpleJavaFileObject;
import javax.tools.ToolProvider;

/** What README.md says must be so: its example is compiled and run, its table and its commands are looked at. */
public final class ReadmeTest {
    private static final Due due = new Due("ReadmeTest");
    private static final Path TESTS = Path.of("src/test/java");
    /** Statements, and behind them the answer of the last: a number or a constant's name. */
    private static final Pattern EXAMPLE_LINE = Pattern.compile("(.*;)?\\s*(\\S[^;]*);\\s*// (-?\\d+|[A-Z]+): \\S.*");

    public static void main(String[] args) throws Exception {
        String page = Files.readString(Path.of("README.md"));
        example(blocks(page, "java").get(0));
        everyCallIsNamed(page);
        everyTestIsNamed(page);
        commands(blocks(page, ""));
        due.end();
    }

    private static List<String> blocks(String page, String language) {
        Matcher matcher = Pattern.compile("(?ms)^```(\\w*)\n(.*?)^```$").matcher(page);
        List<String> found = new ArrayList<>();
        while (matcher.find()) {
            if (matcher.group(1).equals(language)) {
                found.add(matcher.group(2));
            }
        }
        return found;
    }

    // ---- the example

    private static void example(String block) throws Exception {
        due.sentence("its example gives the answers that stand beside it");
        StringBuilder program = new StringBuilder("public final class Example {\n"
            + "public static void run(java.util.function.ObjIntConsumer<String> answers) {\n");
        List<Integer> wanted = new ArrayList<>();
        for (String line : block.split("\n")) {
            Matcher matcher = EXAMPLE_LINE.matcher(line);
            if (matcher.matches()) {
                program.append(asking(matcher));
                wanted.add(numberOf(matcher.group(3)));
            } else {
                due.holds("a line without an answer makes the object or is a comment: " + line,
                    line.isBlank() || line.startsWith("// ") || line.equals("QuotedLetters q = new QuotedLetters();"));
                program.append(line).append('\n');
            }
        }
        due.holds("the example keeps within 512 calls", block.split("q\\.").length - 1 <= Counted.MOST_CALLS);
        List<String> calls = new ArrayList<>();
        List<Integer> answers = new ArrayList<>();
        runExample(program.append("}\n}\n").toString(), (call, answer) -> {
            calls.add(call);
            answers.add(answer);
        });
        due.is("answers of the example", answers.size(), wanted.size());
        for (int k = 0; k < answers.size() && k < wanted.size(); k++) {
            due.is(calls.get(k), answers.get(k), wanted.get(k));
        }
    }

    private static String asking(Matcher line) {
        String ahead = line.group(1) == null ? "" : line.group(1);
        String call = line.group(2);
        Matcher named = Pattern.compile("int (\\w+) = .*").matcher(call);
        if (named.matches()) {
            return ahead + call + "; answers.accept(\"" + call + "\", " + named.group(1) + ");\n";
        }
        return ahead + " answers.accept(\"" + call + "\", " + call + ");\n";
    }

    private static int numberOf(String answer) throws ReflectiveOperationException {
        if (answer.matches("-?\\d+")) {
            return Integer.parseInt(answer);
        }
        return QuotedLetters.class.getField(answer).getInt(null);
    }

    private static void runExample(String program, ObjIntConsumer<String> answers) throws Exception {
        Path made = Files.createTempDirectory("example");
        try {
            JavaCompiler compiler = ToolProvider.getSystemJavaCompiler();
            JavaFileObject source = new SimpleJavaFileObject(URI.create("string:///Example.java"),
                    JavaFileObject.Kind.SOURCE) {
                @Override
                public CharSequence getCharContent(boolean ignoreEncodingErrors) {
                    return program;
                }
            };
            StringWriter said = new StringWriter();
            List<String> options = List.of("-d", made.toString(), "-cp", System.getProperty("java.class.path"));
            boolean compiles = compiler.getTask(said, null, null, options, null, List.of(source)).call();
            due.holds("the example compiles " + said, compiles);
            if (compiles) {
                callExample(made, answers);
            }
        } finally {
            wipe(made);
        }
    }

    private static void callExample(Path made, ObjIntConsumer<String> answers) throws Exception {
        try (URLClassLoader loader = new URLClassLoader(new URL[] {made.toUri().toURL()})) {
            Method run = loader.loadClass("Example").getMethod("run", ObjIntConsumer.class);
            run.invoke(null, answers);
        } catch (InvocationTargetException thrown) {
            due.holds("the example threw " + thrown.getCause(), false);
        }
    }

    private static void wipe(Path directory) throws IOException {
        try (Stream<Path> all = Files.walk(directory)) {
            for (Path path : all.sorted(Comparator.reverseOrder()).collect(Collectors.toList())) {
                Files.delete(path);
            }
        }
    }

    // ---- tables and commands

    private static Set<String> firstCells(String page, Pattern name) {
        Set<String> found = new TreeSet<>();
        for (String row : page.split("\n")) {
            if (row.startsWith("| ")) {
                Matcher matcher = name.matcher(row.split("\\|")[1]);
                while (matcher.find()) {
                    found.add(matcher.group(1));
                }
            }
        }
        return found;
    }

    private static void everyCallIsNamed(String page) {
        due.sentence("README.md says how to use the class");
        Set<String> calls = new TreeSet<>();
        for (Method method : QuotedLetters.class.getMethods()) {
            if (method.getDeclaringClass() == QuotedLetters.class) {
                calls.add(method.getName());
            }
        }
        Set<String> named = firstCells(page, Pattern.compile("`(\\w+)`"));
        due.holds("the table names " + calls + ", it says " + named, named.equals(calls));
    }

    private static void everyTestIsNamed(String page) throws IOException {
        due.sentence("README.md says how to run its tests");
        Set<String> tests = new TreeSet<>();
        try (Stream<Path> files = Files.list(TESTS)) {
            files.map(path -> path.getFileName().toString()).filter(name -> name.endsWith("Test.java"))
                .forEach(name -> tests.add(name.substring(0, name.length() - ".java".length())));
        }
        Set<String> named = firstCells(page, Pattern.compile("(\\w+Test)\\b"));
        due.holds("the table names " + tests + ", it says " + named, named.equals(tests));
    }

    /** .ci/run runs this test, so it can't be run from here: what the commands name must be there. */
    private static void commands(List<String> blocks) {
        due.sentence("its command runs the tests");
        due.is("blocks of commands", blocks.size(), 2);
        due.holds("the first is .ci/run", blocks.get(0).strip().equals(".ci/run"));
        due.holds(".ci/run can be run", Files.isExecutable(Path.of(".ci/run")));
        for (String word : Arrays.asList(blocks.get(1).split("\\s+"))) {
            if (word.startsWith("src/")) {
                due.holds(word + " is there", Files.exists(Path.of(word.replace("*.java", ""))));
            }
            if (word.endsWith("Test")) {
                due.holds(word + " is there", Files.exists(TESTS.resolve(word + ".java")));
            }
        }
    }
}
