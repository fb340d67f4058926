import java.io.IOException;
import java.lang.reflect.Method;
import java.lang.reflect.Modifier;
import java.net.URL;
import java.net.URLClassLoader;
import java.nio.file.DirectoryStream;
import java.nio.file.Files;
import java.nio.file.Path;
import java.util.ArrayList;
import java.util.List;
import java.util.regex.Matcher;
import java.util.regex.Pattern;
import javax.tools.JavaCompiler;
import javax.tools.ToolProvider;

// README.md gives the class's own answers, and leaves no call and no test
// out. Run from the project's directory, as .ci/run does.
public final class ReadmeTests {
    private static final Path README = Path.of("README.md");
    private static final Path TESTS = Path.of("src/test/java");
    private static final String NEW_STORE = "TwoPhaseStore store = new TwoPhaseStore();";

    // A call, perhaps kept in a variable, and its answer, perhaps with a word
    // on it after a colon.
    private static final Pattern CALL = Pattern.compile(
        "(?:int (\\w+) = )?(store\\.\\w+\\(.*\\)); +// (-?\\d+|BAD|BUSY|FULL)(?:: .+)?");

    private static int wrong = 0;

    private static void fault(String text) {
        wrong++;
        System.out.println(text);
    }

    public static void main(String[] args) throws Exception {
        String readme = Files.readString(README);
        exampleAnswersAsTheClass(readme);
        everyCallIsNamed(readme);
        everyRefusalHasItsNumber(readme);
        everyTestIsNamed(readme);
        System.out.println("ReadmeTests: " + wrong + " wrong");
        if (wrong != 0) {
            System.exit(1);
        }
    }

    private static void exampleAnswersAsTheClass(String readme) throws Exception {
        List<String> calls = new ArrayList<>();
        List<Integer> due = new ArrayList<>();
        StringBuilder body = new StringBuilder();
        for (String line : exampleOf(readme)) {
            Matcher call = CALL.matcher(line);
            if (call.matches()) {
                calls.add(call.group(2));
                due.add(numberOf(call.group(3)));
                body.append(recorded(call.group(1), call.group(2)));
            } else if (line.equals(NEW_STORE)) {
                body.append(line).append('\n');
            } else if (!line.isBlank()) {
                fault("README.md: a line of the example without its answer: " + line);
            }
        }
        compare(calls, answersOf(body.toString()), due);
        everyMethodIsInTheExample(calls);
    }

    private static List<String> exampleOf(String readme) {
        Matcher example = Pattern.compile("^```java\\R(.*?)^```$", Pattern.MULTILINE | Pattern.DOTALL).matcher(readme);
        if (!example.find()) {
            fault("README.md: no example");
            return List.of();
        }
        return example.group(1).lines().toList();
    }

    private static int numberOf(String answer) {
        switch (answer) {
            case "BAD": return -100000;
            case "FULL": return -200000;
            case "BUSY": return -300000;
            default: return Integer.parseInt(answer);
        }
    }

    private static String recorded(String variable, String call) {
        return variable == null
            ? "answers.add(" + call + ");\n"
            : "int " + variable + " = " + call + ";\nanswers.add(" + variable + ");\n";
    }

    private static void compare(List<String> calls, List<?> got, List<Integer> due) {
        for (int i = 0; i < got.size(); i++) {
            if (!got.get(i).equals(due.get(i))) {
                fault("README.md: " + calls.get(i) + " answers " + got.get(i) + ", the example says " + due.get(i));
            }
        }
    }

    // Compiled and not only read, so that the example is Java that a reader
    // can copy.
    private static List<?> answersOf(String body) throws Exception {
        Path directory = Files.createTempDirectory("readme");
        try {
            Path source = directory.resolve("ReadmeExample.java");
            Files.writeString(source, "import java.util.*;\n"
                + "public final class ReadmeExample {\n"
                + "public static List<Integer> answers() {\n"
                + "List<Integer> answers = new ArrayList<>();\n"
                + body
                + "return answers;\n}\n}\n");
            JavaCompiler compiler = ToolProvider.getSystemJavaCompiler();
            if (compiler == null) {
                fault("README.md: the example can't be compiled, as this java comes without javac");
                return List.of();
            }
            int code = compiler.run(null, null, null, "-cp", System.getProperty("java.class.path"),
                "-d", directory.toString(), source.toString());
            if (code != 0) {
                fault("README.md: the example does not compile");
                return List.of();
            }
            try (URLClassLoader loader = new URLClassLoader(new URL[] {directory.toUri().toURL()})) {
                return (List<?>) loader.loadClass("ReadmeExample").getMethod("answers").invoke(null);
            }
        } finally {
            delete(directory);
        }
    }

    private static void delete(Path directory) throws IOException {
        try (DirectoryStream<Path> files = Files.newDirectoryStream(directory)) {
            for (Path file : files) {
                Files.delete(file);
            }
        }
        Files.delete(directory);
    }

    private static List<String> publicMethods() {
        List<String> names = new ArrayList<>();
        for (Method method : TwoPhaseStore.class.getDeclaredMethods()) {
            if (Modifier.isPublic(method.getModifiers())) {
                names.add(method.getName());
            }
        }
        return names;
    }

    private static void everyMethodIsInTheExample(List<String> calls) {
        for (String name : publicMethods()) {
            if (calls.stream().noneMatch(call -> call.startsWith("store." + name + "("))) {
                fault("README.md: the example does not call " + name);
            }
        }
    }

    private static void everyCallIsNamed(String readme) {
        for (String name : publicMethods()) {
            if (!readme.contains("\n| `" + name + "(")) {
                fault("README.md: no row for " + name);
            }
        }
    }

    private static void everyRefusalHasItsNumber(String readme) {
        String[] rows = {
            "`BAD` (" + TwoPhaseStore.BAD + ")",
            "`BUSY` (" + TwoPhaseStore.BUSY + ")",
            "`FULL` (" + TwoPhaseStore.FULL + ")",
        };
        for (String row : rows) {
            if (!readme.contains("\n- " + row + ": ")) {
                fault("README.md: does not say what is " + row);
            }
        }
    }

    private static void everyTestIsNamed(String readme) throws IOException {
        if (!readme.contains("\n    .ci/run\n")) {
            fault("README.md: does not say how to run the tests");
        }
        try (DirectoryStream<Path> files = Files.newDirectoryStream(TESTS, "*.java")) {
            for (Path file : files) {
                String name = file.getFileName().toString().replace(".java", "");
                if (!readme.contains("\n- `" + name + "`: ")) {
                    fault("README.md: does not name the test " + name);
                }
            }
        }
    }
}
