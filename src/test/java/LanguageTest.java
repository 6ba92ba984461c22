import java.io.IOException;
import java.lang.reflect.Method;
import java.lang.reflect.Modifier;
import java.nio.file.Files;
import java.nio.file.Path;
import java.util.Arrays;
import java.util.HashSet;
import java.util.Set;
import java.util.regex.Matcher;
import java.util.regex.Pattern;

/** Looks in the source for what LANGUAGE.md rules out, as far as it can be found by looking at the text. */
final class LanguageTest {
    private static final Path SOURCE = Path.of("src/main/java/SpectrumReallocator.java");
    private static final String[] RULED_OUT = {"->", "::", "\\bassert\\b", "\\bsynchronized\\b", "\\bfinally\\b",
        "\\btry\\b", "\\bcatch\\b", "\\bFloat\\b", "\\bDouble\\b", "Exact\\b", "\\bSystem\\.(?!arraycopy)", "\\bThread\\b",
        "\\bObject\\b", "\\blambda\\b", "\\bpackage\\b", "\\bprotected\\b", "\\bvolatile\\b", "\\btransient\\b",
        "\\bnative\\b", "\\bvar\\b", "\\bMath\\.(?!max\\b|min\\b|abs\\b)", "\\bInteger\\.(?!bitCount\\b)",
        "\\bArrays\\.(?!fill\\b|copyOf\\b|copyOfRange\\b)", "while \\(true\\)", "for \\(;;\\)",
        "static final (float|double)", "\\[\\]\\[\\]\\[\\]", "\\bhashCode\\b", "\\bequals\\b", "\\btoString\\b"};
    private static final int MOST_LINES = 60;
    private static final int MOST_PARAMETERS = 7;
    private static final int MOST_CLASSES = 12;
    private static final int MOST_FIELDS = 20;

    private LanguageTest() {
    }

    public static void main(String[] args) throws IOException {
        String source = Files.readString(SOURCE);
        Check.due("plain characters", source.chars().allMatch(c -> c == '\n' || c >= 32 && c < 127), true);
        String code = withoutTexts(source);
        for (String pattern : RULED_OUT) {
            Matcher matcher = Pattern.compile(pattern).matcher(code);
            Check.due(pattern, matcher.find() ? "line " + lineOf(code, matcher.start()) : "not there", "not there");
        }
        lookAtImports(code);
        lookAtThrows(code);
        lookAtMethodLengths(code);
        lookAtClasses();
        Check.end("LanguageTest");
    }

    /** Comments and texts become empty; the lines stay. */
    private static String withoutTexts(String source) {
        Matcher matcher = Pattern.compile("/\\*.*?\\*/|//[^\n]*|\"[^\"\n]*\"", Pattern.DOTALL).matcher(source);
        return matcher.replaceAll(found -> found.group().replaceAll("[^\n]", ""));
    }

    private static int lineOf(String code, int index) {
        return (int) code.substring(0, index).chars().filter(c -> c == '\n').count() + 1;
    }

    private static void lookAtImports(String code) {
        Matcher matcher = Pattern.compile("import ([^;]+);").matcher(code);
        Set<String> allowed = Set.of("java.util.Arrays", "java.util.ArrayList", "java.util.List",
                "java.util.NoSuchElementException", "java.util.Iterator");
        while (matcher.find()) {
            Check.due("import " + matcher.group(1), allowed.contains(matcher.group(1)), true);
        }
    }

    private static void lookAtThrows(String code) {
        Matcher matcher = Pattern.compile("throw ([^;]*);").matcher(code);
        Pattern form = Pattern.compile("new (IllegalState|IllegalArgument|IndexOutOfBounds|Arithmetic"
                + "|UnsupportedOperation|NoSuchElement|Runtime)Exception\\(\\)");
        while (matcher.find()) {
            Check.due("throw " + matcher.group(1), form.matcher(matcher.group(1)).matches(), true);
        }
    }

    private static void lookAtMethodLengths(String code) {
        int start = -1;
        String indent = "";
        String[] lines = code.split("\n", -1);
        for (int i = 0; i < lines.length; i++) {
            Matcher head = Pattern.compile("^( {4}| {8})(public|private) [^=;]*\\(.*").matcher(lines[i]);
            if (start == -1 && head.matches() && !lines[i].contains("class ")) {
                start = i;
                indent = head.group(1);
            } else if (start != -1 && lines[i].equals(indent + "}")) {
                Check.due("length of the method at line " + (start + 1), i - start < MOST_LINES, true);
                start = -1;
            }
        }
        Check.dueNumber("every method ends", start, -1);
    }

    private static void lookAtClasses() {
        Class<?>[] inner = SpectrumReallocator.class.getDeclaredClasses();
        Check.due("number of classes", inner.length + 1 <= MOST_CLASSES, true);
        Set<String> face = new HashSet<>();
        for (Method method : SpectrumReallocator.class.getDeclaredMethods()) {
            if (Modifier.isPublic(method.getModifiers())) {
                face.add(method.getName());
            }
        }
        lookAtMembers(SpectrumReallocator.class, face);
        for (Class<?> other : inner) {
            lookAtMembers(other, face);
        }
    }

    private static void lookAtMembers(Class<?> owner, Set<String> face) {
        for (Method method : owner.getDeclaredMethods()) {
            boolean hidden = !Modifier.isPublic(method.getModifiers());
            Check.due(method + " has a name of its own", hidden && face.contains(method.getName()), false);
            Check.due(method + " has few parameters", method.getParameterCount() <= MOST_PARAMETERS, true);
        }
        long fields = Arrays.stream(owner.getDeclaredFields()).filter(f -> !Modifier.isStatic(f.getModifiers())).count();
        Check.due(owner + " has few fields", fields <= MOST_FIELDS, true);
        Arrays.stream(owner.getDeclaredFields()).filter(f -> Modifier.isStatic(f.getModifiers()))
                .forEach(f -> Check.due(f + " is final", Modifier.isFinal(f.getModifiers()), true));
    }
}
