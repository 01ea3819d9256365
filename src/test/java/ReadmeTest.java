import java.io.IOException;
import java.lang.reflect.Method;
import java.lang.reflect.Modifier;
import java.net.URL;
import java.net.URLClassLoader;
import java.nio.file.DirectoryStream;
import java.nio.file.Files;
import java.nio.file.Path;
import java.util.ArrayList;
import java.util.Arrays;
import java.util.Collection;
import java.util.List;
import java.util.TreeSet;
import java.util.function.Supplier;
import java.util.regex.Matcher;
import java.util.regex.Pattern;
import javax.tools.JavaCompiler;
import javax.tools.ToolProvider;

/** README.md: its example does what it says, its table is of the face's calls, its tests are there. */
public final class ReadmeTest {
    private static final String NAME = "ReadmeExample";
    /** A call, with a name for its answer or without one, and what is said to come of it. */
    private static final Pattern SAID =
        Pattern.compile("(?:int (\\w+) = )?(\\S.*);\\s+// (-?\\d+|throws \\w+)\\b.*");
    private static final Pattern ROW = Pattern.compile("\\| `(\\w+) (\\w+)\\((.*)\\)` \\|(.*)\\|(.*)\\|(.*)\\|(.*)\\|");
    private static final List<Class<?>> REFUSALS = List.of(
        IllegalArgumentException.class, IllegalStateException.class, UnsupportedOperationException.class);

    private final Check check = new Check();
    private final List<String> lines;

    private ReadmeTest(List<String> lines) {
        this.lines = lines;
    }

    public static void main(String[] args) throws Exception {
        ReadmeTest test = new ReadmeTest(Files.readAllLines(Path.of("README.md")));
        test.example();
        test.calls();
        test.tests();
        test.check.end();
    }

    private void example() throws Exception {
        List<String> code = javaBlock();
        List<String> due = new ArrayList<>();
        List<String> told = new ArrayList<>();
        for (String line : code) {
            Matcher said = SAID.matcher(line);
            if (said.matches()) {
                told.add(said.group(2));
                due.add(said.group(3));
            }
        }
        List<String> got = answers(code);
        check.same("answers of the example", got.size(), due.size());
        for (int i = 0; i < Math.min(got.size(), due.size()); i++) {
            check.same("the example's " + told.get(i), got.get(i), due.get(i));
        }
        for (String name : namesOfCalls()) {
            check.holds("the example has " + name, String.join("\n", code).contains("desk." + name + "("));
        }
    }

    private List<String> javaBlock() {
        int from = lines.indexOf("```java") + 1;
        check.holds("there is an example", from > 0);
        List<String> rest = lines.subList(from, lines.size());
        return rest.subList(0, rest.indexOf("```"));
    }

    /** What the example's calls answer: it is compiled and run as it stands. */
    private static List<String> answers(List<String> code) throws Exception {
        Path directory = Files.createTempDirectory("readme");
        try {
            compile(directory, code);
            return run(directory);
        } finally {
            removeAll(directory);
        }
    }

    private static void compile(Path directory, List<String> code) throws IOException {
        Path file = directory.resolve(NAME + ".java");
        Files.writeString(file, program(code));
        JavaCompiler compiler = ToolProvider.getSystemJavaCompiler();
        int wrong = compiler.run(null, null, null, "-d", directory.toString(),
            "-cp", System.getProperty("java.class.path"), file.toString());
        if (wrong != 0) {
            throw new IllegalStateException("the example does not compile");
        }
    }

    private static List<String> run(Path directory) throws Exception {
        try (URLClassLoader loader = new URLClassLoader(new URL[] {directory.toUri().toURL()})) {
            Supplier<?> example = (Supplier<?>) loader.loadClass(NAME).getConstructor().newInstance();
            List<String> answers = new ArrayList<>();
            for (Object answer : (Collection<?>) example.get()) {
                answers.add(answer.toString());
            }
            return answers;
        }
    }

    private static void removeAll(Path directory) throws IOException {
        try (DirectoryStream<Path> files = Files.newDirectoryStream(directory)) {
            for (Path file : files) {
                Files.delete(file);
            }
        }
        Files.delete(directory);
    }

    private static String program(List<String> code) {
        StringBuilder text = new StringBuilder();
        text.append("import java.util.*;\n");
        text.append("public final class " + NAME + " implements java.util.function.Supplier<List<String>> {\n");
        text.append("public List<String> get() {\nList<String> answers = new ArrayList<>();\n");
        for (String line : code) {
            text.append(withAnswerKept(line)).append('\n');
        }
        return text.append("return answers;\n}\n}\n").toString();
    }

    private static String withAnswerKept(String line) {
        Matcher said = SAID.matcher(line);
        if (!said.matches()) {
            return line;
        }
        if (said.group(3).startsWith("throws")) {
            return "try { " + said.group(2) + "; answers.add(\"throws nothing\"); }"
                + " catch (RuntimeException e) { answers.add(\"throws \" + e.getClass().getSimpleName()); }";
        }
        if (said.group(1) != null) {
            return line + "\nanswers.add(\"\" + " + said.group(1) + ");";
        }
        return "answers.add(\"\" + " + said.group(2) + ");";
    }

    private void calls() {
        TreeSet<String> told = new TreeSet<>();
        for (String line : lines) {
            Matcher row = ROW.matcher(line);
            if (row.matches()) {
                told.add(row.group(2));
                call(row);
            }
        }
        check.same("the calls of the table", told.toString(), namesOfCalls().toString());
    }

    private void call(Matcher row) {
        for (Method method : FareDesk.class.getDeclaredMethods()) {
            if (Modifier.isPublic(method.getModifiers()) && method.getName().equals(row.group(2))) {
                check.same("what it answers: " + row.group(2), method.getReturnType().getName(), row.group(1));
                check.same("its values: " + row.group(2), written(method.getParameterTypes()),
                    row.group(3).replaceAll(" \\w+(?=,|$)", ""));
                refusals(method, row);
            }
        }
    }

    private static String written(Class<?>[] types) {
        List<String> names = new ArrayList<>();
        for (Class<?> type : types) {
            names.add(type.getName());
        }
        return String.join(", ", names);
    }

    private void refusals(Method method, Matcher row) {
        for (int i = 0; i < REFUSALS.size(); i++) {
            boolean named = Arrays.asList(method.getExceptionTypes()).contains(REFUSALS.get(i));
            boolean told = !row.group(5 + i).trim().equals("-");
            check.same(method.getName() + " throws " + REFUSALS.get(i).getSimpleName(), "" + told, "" + named);
        }
    }

    private static TreeSet<String> namesOfCalls() {
        TreeSet<String> names = new TreeSet<>();
        for (Method method : FareDesk.class.getDeclaredMethods()) {
            if (Modifier.isPublic(method.getModifiers())) {
                names.add(method.getName());
            }
        }
        return names;
    }

    private void tests() throws IOException {
        String text = String.join("\n", lines);
        check.holds("how to run the tests", text.contains("```sh\n.ci/run\n```"));
        check.holds("what it says to run can be run", Files.isExecutable(Path.of(".ci", "run")));
        try (DirectoryStream<Path> files = Files.newDirectoryStream(Path.of("src", "test", "java"), "*Test.java")) {
            for (Path file : files) {
                String name = file.getFileName().toString().replace(".java", "");
                check.holds("it has a row for " + name, text.contains("| `" + name + "` |"));
            }
        }
    }
}
