import java.io.IOException;
import java.nio.file.Files;
import java.nio.file.Path;
import java.util.ArrayList;
import java.util.List;
import java.util.Set;
import java.util.TreeSet;
import java.util.regex.Matcher;
import java.util.regex.Pattern;
import java.util.spi.ToolProvider;

/** That the run of calls in README.md can be compiled, has the answers that stand there, and leaves no method out. */
final class ReadmeTest {
    private static final Path README = Path.of("README.md");
    private static final Path DIRECTORY = Path.of("build/readme");
    private static final Pattern CALL =
            Pattern.compile("(?:// )?x\\.(\\w+)\\(([^)]*)\\); +// ([-\\w]+)(?:[:, ].*)?");

    private ReadmeTest() {
    }

    public static void main(String[] args) throws IOException {
        List<String> run = runOfCalls();
        Check.dueNumber("what the compiler says", compile(run), 0);
        Set<String> called = makeCalls(run);
        Set<String> face = new TreeSet<>();
        for (var method : SpectrumReallocator.class.getMethods()) {
            if (method.getDeclaringClass() == SpectrumReallocator.class) {
                face.add(method.getName());
            }
        }
        Check.due("methods that are called", called, face);
        Check.end("ReadmeTest");
    }

    /** The lines of the only block of Java. */
    private static List<String> runOfCalls() throws IOException {
        List<String> run = new ArrayList<>();
        boolean inside = false;
        for (String line : Files.readAllLines(README)) {
            if (line.startsWith("```")) {
                inside = line.equals("```java");
            } else if (inside) {
                run.add(line);
            }
        }
        return run;
    }

    private static int compile(List<String> run) throws IOException {
        Files.createDirectories(DIRECTORY);
        Path file = DIRECTORY.resolve("Yours.java");
        Files.writeString(file, "final class Yours {\npublic static void main(String[] args) {\n" + String.join("\n", run)
                + "\n}\n}\n");
        return ToolProvider.findFirst("javac").orElseThrow().run(System.out, System.out, "-d", DIRECTORY.toString(),
                "src/main/java/SpectrumReallocator.java", file.toString());
    }

    /** Every line that is no bare comment must be a call with its answer. */
    private static Set<String> makeCalls(List<String> run) {
        Set<String> called = new TreeSet<>();
        SpectrumReallocator object = new SpectrumReallocator();
        Check.due("the first line", run.get(0), "SpectrumReallocator x = new SpectrumReallocator();");
        for (String line : run.subList(1, run.size())) {
            Matcher call = CALL.matcher(line);
            if (call.matches()) {
                called.add(call.group(1));
                Object got = Calls.answer(object, call.group(1), arguments(call.group(2)));
                Check.due(line, got instanceof Number ? (Object) ((Number) got).longValue() : got, due(call.group(3)));
            } else {
                Check.due("a call with its answer: " + line, line.isEmpty() || line.matches("// [^x].*"), true);
            }
        }
        return called;
    }

    private static Object[] arguments(String text) {
        List<Object> arguments = new ArrayList<>();
        for (String part : text.isEmpty() ? new String[0] : text.split(", ")) {
            arguments.add(part.equals("true") || part.equals("false") ? (Object) part.equals("true")
                    : (Object) (int) number(part));
        }
        return arguments.toArray();
    }

    private static Object due(String text) {
        if (text.endsWith("Exception")) {
            return "java.lang." + text;
        }
        return text.equals("true") || text.equals("false") ? (Object) text.equals("true") : (Object) number(text);
    }

    private static long number(String text) {
        return text.startsWith("0b") ? Long.parseLong(text.substring(2), 2) : Long.decode(text);
    }
}
