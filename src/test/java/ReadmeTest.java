import java.io.IOException;
import java.lang.reflect.Method;
import java.lang.reflect.Modifier;
import java.net.URL;
import java.net.URLClassLoader;
import java.nio.file.Files;
import java.nio.file.Path;
import java.util.ArrayList;
import java.util.List;
import java.util.Set;
import java.util.TreeSet;
import java.util.regex.Matcher;
import java.util.regex.Pattern;
import java.util.stream.Stream;
import javax.tools.ToolProvider;

/**
 * README.md agrees with the class: its examples are compiled as they stand there, each call in them
 * answers what the comment behind it names, and nothing that it lists is missing or not there.
 */
public final class ReadmeTest {
    private static final Path README = Path.of("README.md");
    private static final Path TESTS = Path.of("src/test/java");
    private static final Pattern NAMED_ANSWER = Pattern.compile("// (-?[0-9]+|BAD_ARG|FULL|NONE): .+$");
    private static final Pattern LISTED_CALL = Pattern.compile("^\\| `(\\w+)\\(([^)]*)\\)` \\|");
    private static final Pattern LISTED_TEST = Pattern.compile("^- `(\\w+Test)`:");
    private static final String CALL = "check.";

    private static final List<String> examples = new ArrayList<>();
    private static final List<String> calls = new ArrayList<>();
    private static final List<Integer> named = new ArrayList<>();
    private static String text;

    public static void main(String[] args) throws IOException, ReflectiveOperationException {
        text = Files.readString(README);
        readExamples();
        answersAreAsNamed();
        eachMethodIsShown();
        eachMethodIsListed();
        constantsAreNamed();
        eachTestIsListed();
        Due.end();
    }

    private static void holds(String what, boolean so) {
        Due.due("README.md: " + what, so ? 1 : 0, 1);
    }

    private static void readExamples() {
        boolean inExample = false;
        for (String line : text.lines().toList()) {
            if (line.startsWith("```")) {
                examples.add(inExample ? "}" : "{");
                inExample = !inExample;
            } else if (inExample) {
                examples.add(recording(line));
            }
        }
        holds("each example has its end", !inExample);
        holds("there are examples with answers", !named.isEmpty());
    }

    /** The line of an example, with the answer kept if the line names one. */
    private static String recording(String line) {
        Matcher comment = NAMED_ANSWER.matcher(line);
        boolean hasAnswer = comment.find();
        // What is indented stands in a loop, and has more answers than one.
        boolean isCall = line.contains(CALL) && !line.startsWith(" ");
        holds("a call has its answer named, and nothing else has one: " + line, isCall == hasAnswer);
        if (!isCall || !hasAnswer) {
            return line;
        }
        named.add(number(comment.group(1)));
        calls.add(line.substring(line.indexOf(CALL) + CALL.length(), comment.start()).strip());
        int index = named.size() - 1;
        return line.replaceFirst(Pattern.quote(CALL), "answers[" + index + "] = " + CALL);
    }

    private static int number(String answer) {
        switch (answer) {
            case "BAD_ARG":
                return TrajectoryCheck.BAD_ARG;
            case "FULL":
                return TrajectoryCheck.FULL;
            case "NONE":
                return TrajectoryCheck.NONE;
            default:
                return Integer.parseInt(answer);
        }
    }

    private static void answersAreAsNamed() throws IOException, ReflectiveOperationException {
        Path folder = Files.createTempDirectory("readme");
        Path source = folder.resolve("ReadmeUse.java");
        Files.writeString(source, "public final class ReadmeUse {\npublic static int[] answers() {\n"
            + "int[] answers = new int[" + named.size() + "];\n"
            + String.join("\n", examples) + "\nreturn answers;\n}\n}\n");
        int[] answers = new int[0];
        if (compiled(source, folder)) {
            answers = answersOf(folder);
        }
        delete(folder);
        holds("the examples compile and end", answers.length == named.size());
        for (int n = 0; n < answers.length; n++) {
            Due.due("README.md: " + calls.get(n), answers[n], named.get(n));
        }
    }

    private static boolean compiled(Path source, Path folder) {
        String[] options = {"-cp", System.getProperty("java.class.path"), "-d", folder.toString(), source.toString()};
        return ToolProvider.getSystemJavaCompiler().run(null, null, null, options) == 0;
    }

    private static int[] answersOf(Path folder) throws IOException, ReflectiveOperationException {
        try (URLClassLoader loader = new URLClassLoader(new URL[] {folder.toUri().toURL()})) {
            return (int[]) loader.loadClass("ReadmeUse").getMethod("answers").invoke(null);
        }
    }

    private static void delete(Path folder) throws IOException {
        try (Stream<Path> files = Files.list(folder)) {
            for (Path file : files.toList()) {
                Files.delete(file);
            }
        }
        Files.delete(folder);
    }

    private static List<Method> publicMethods() {
        List<Method> methods = new ArrayList<>();
        for (Method method : TrajectoryCheck.class.getDeclaredMethods()) {
            if (Modifier.isPublic(method.getModifiers())) {
                methods.add(method);
            }
        }
        return methods;
    }

    private static void eachMethodIsShown() {
        for (Method method : publicMethods()) {
            boolean shown = calls.stream().anyMatch(call -> call.startsWith(method.getName() + "("));
            holds("an example has " + method.getName(), shown);
        }
    }

    private static void eachMethodIsListed() {
        Set<String> wanted = new TreeSet<>();
        for (Method method : publicMethods()) {
            wanted.add(method.getName() + ", parameters: " + method.getParameterCount());
        }
        Set<String> listed = new TreeSet<>();
        for (String line : text.lines().toList()) {
            Matcher call = LISTED_CALL.matcher(line);
            if (call.find()) {
                int parameters = call.group(2).isEmpty() ? 0 : call.group(2).split(",").length;
                listed.add(call.group(1) + ", parameters: " + parameters);
            }
        }
        holds("the calls listed are " + wanted + ", not " + listed, listed.equals(wanted));
    }

    private static void constantsAreNamed() {
        holds("BAD_ARG with its number", text.contains("`BAD_ARG` (" + TrajectoryCheck.BAD_ARG + ")"));
        holds("FULL with its number", text.contains("`FULL` (" + TrajectoryCheck.FULL + ")"));
        holds("NONE with its number", text.contains("`NONE` (" + TrajectoryCheck.NONE + ")"));
    }

    private static void eachTestIsListed() throws IOException {
        Set<String> wanted = new TreeSet<>();
        try (Stream<Path> files = Files.list(TESTS)) {
            for (Path file : files.toList()) {
                wanted.add(file.getFileName().toString().replace(".java", ""));
            }
        }
        Set<String> listed = new TreeSet<>();
        for (String line : text.lines().toList()) {
            Matcher test = LISTED_TEST.matcher(line);
            if (test.find()) {
                listed.add(test.group(1));
            }
        }
        holds("the tests listed are " + wanted + ", not " + listed, listed.equals(wanted));
    }
}
