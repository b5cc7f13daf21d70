import java.io.IOException;
import java.lang.reflect.Method;
import java.lang.reflect.Modifier;
import java.net.URL;
import java.net.URLClassLoader;
import java.nio.file.Files;
import java.nio.file.Path;
import java.util.ArrayList;
import java.util.Arrays;
import java.util.Collections;
import java.util.List;
import java.util.Set;
import java.util.TreeSet;
import java.util.function.BiConsumer;
import java.util.function.Consumer;
import java.util.function.LongSupplier;
import java.util.regex.Matcher;
import java.util.regex.Pattern;
import java.util.stream.Collectors;
import java.util.stream.Stream;
import javax.tools.ToolProvider;

/**
 * README.md: its examples compile, and each answer that it gives there is the one that the class
 * gives. It is read from the directory that the test runs in, which is the project's.
 */
public final class ReadmeTest {
    private static final Path README = Path.of("README.md");
    private static final Pattern EXAMPLE = Pattern.compile("```java\n(.*?)```", Pattern.DOTALL);
    /** A statement, and behind it, as a comment, perhaps an answer and what it means. */
    private static final Pattern LINE = Pattern.compile("([^/]*?);?\\s*(?://\\s*(?:-> ([^:]*))?.*)?");
    private static final Pattern CALL = Pattern.compile("books\\.(\\w+)\\(.*");
    private static final Pattern VARIABLE = Pattern.compile("int (\\w+) = " + CALL.pattern());

    /** The examples as a class: each answer that is given is handed on with the call that answers. */
    private final StringBuilder source = new StringBuilder();
    private final Set<String> callsShown = new TreeSet<>();
    private final Set<String> answersGiven = new TreeSet<>();

    public static void main(String[] args) throws IOException {
        String text = Files.readString(README);
        ReadmeTest test = new ReadmeTest();
        Check.sentence("each answer that README.md gives is the one that the class gives", () -> test.examples(text));
        Check.sentence("README.md shows each call of the face", () -> test.eachCall(text));
        Check.end("ReadmeTest");
    }

    private void examples(String text) {
        Matcher example = EXAMPLE.matcher(text);
        source.append("import java.util.function.*;\n")
            .append("public final class Example implements Consumer<BiConsumer<String, LongSupplier>> {\n")
            .append("@Override public void accept(BiConsumer<String, LongSupplier> due) {\n");
        while (example.find()) {
            source.append("{\n");
            example.group(1).lines().forEach(this::addLine);
            source.append("}\n");
        }
        source.append("}\n}\n");
        run();
    }

    private void addLine(String line) {
        Matcher parts = LINE.matcher(line);
        if (!parts.matches()) {
            Check.fail("not one statement and its comment: " + line);
            return;
        }
        String statement = parts.group(1);
        String answer = parts.group(2);
        Matcher call = CALL.matcher(statement);
        Matcher variable = VARIABLE.matcher(statement);
        if (answer == null) {
            addUnanswered(statement, call.matches() ? call.group(1) : "");
        } else if (variable.matches()) {
            source.append(statement).append(";\n");
            addAnswered(variable.group(2), statement, variable.group(1), answer.strip());
        } else if (call.matches()) {
            addAnswered(call.group(1), statement, statement, answer.strip());
        } else {
            Check.fail("an answer without a call: " + line);
        }
    }

    private void addAnswered(String name, String statement, String expression, String answer) {
        callsShown.add(name);
        answersGiven.add(answer);
        source.append("due.accept(\"").append(statement).append(" -> ").append(answer)
            .append("\", () -> ").append(expression).append(");\n");
    }

    private void addUnanswered(String statement, String name) {
        boolean answers = face().anyMatch(m -> m.getName().equals(name) && m.getReturnType() != void.class);
        if (answers) {
            Check.fail("no answer is given of " + statement);
        }
        if (!statement.isEmpty()) {
            source.append(statement).append(";\n");
        }
        if (!name.isEmpty()) {
            callsShown.add(name);
        }
    }

    private static Stream<Method> face() {
        return Arrays.stream(ShopLedger.class.getDeclaredMethods()).filter(m -> Modifier.isPublic(m.getModifiers()));
    }

    private void run() {
        try {
            Path directory = Files.createTempDirectory("readme");
            Path file = Files.writeString(directory.resolve("Example.java"), source);
            int failed = ToolProvider.getSystemJavaCompiler().run(null, null, null,
                "-cp", System.getProperty("java.class.path"), "-d", directory.toString(), file.toString());
            Check.due("compiling the examples", 0, failed);
            if (failed == 0) {
                example(directory).accept(ReadmeTest::due);
            }
            removeAll(directory);
        } catch (IOException | ReflectiveOperationException e) {
            Check.fail("the examples can't be run: " + e);
        }
    }

    @SuppressWarnings("unchecked")
    private static Consumer<BiConsumer<String, LongSupplier>> example(Path directory)
            throws IOException, ReflectiveOperationException {
        try (URLClassLoader loader = new URLClassLoader(new URL[] {directory.toUri().toURL()})) {
            return (Consumer<BiConsumer<String, LongSupplier>>)
                loader.loadClass("Example").getConstructor().newInstance();
        }
    }

    private static void removeAll(Path directory) throws IOException {
        List<Path> files = new ArrayList<>();
        try (var found = Files.list(directory)) {
            found.forEach(files::add);
        }
        files.add(directory);
        for (Path file : files) {
            Files.delete(file);
        }
    }

    /** Given is a statement with its answer, as README.md has them. */
    private static void due(String given, LongSupplier call) {
        String answer;
        try {
            answer = Long.toString(call.getAsLong());
        } catch (RuntimeException e) {
            answer = e.getClass().getSimpleName();
        }
        String statement = given.substring(0, given.indexOf(" -> "));
        Check.same("README.md: the class's answer", given, statement + " -> " + answer);
    }

    /** In an example, with an answer if it has one, and in the table with its parameters. */
    private void eachCall(String text) {
        Set<String> names = face().map(Method::getName).collect(Collectors.toCollection(TreeSet::new));
        Check.same("the calls of the examples", names.toString(), callsShown.toString());
        face().forEach(m -> {
            String parameters = String.join(", ", Collections.nCopies(m.getParameterCount(), "\\w+"));
            if (!Pattern.compile("\n\\| `" + m.getName() + "\\(" + parameters + "\\)` \\|").matcher(text).find()) {
                Check.fail("the table of calls lacks " + m.getName() + " with " + m.getParameterCount() + " parameters");
            }
        });
        for (Class<?> kind : List.of(Check.INDEX, Check.TURN, Check.RANGE, Check.MEANING)) {
            if (!answersGiven.contains(kind.getSimpleName())) {
                Check.fail("no example throws " + kind.getSimpleName());
            }
        }
    }
}
