import java.util.ArrayList;
import java.util.Arrays;
import java.util.List;

/** An object and a model, on which the same calls are made; it stops at the first answers that are not the same. */
final class Pair {
    /** The document promises nothing after these. */
    static final int MOST_CALLS = 512;

    final SpectrumReallocator tested = new SpectrumReallocator();
    final Model model = new Model();
    private final String title;
    private final List<String> calls = new ArrayList<>();
    private boolean wrong = false;

    Pair(String title) {
        this.title = title;
    }

    boolean isWrong() {
        return wrong;
    }

    int size() {
        return calls.size();
    }

    void call(String name, Object... arguments) {
        if (wrong || calls.size() >= MOST_CALLS) {
            return;
        }
        Object got = Calls.answer(tested, name, arguments);
        Object due = Calls.answer(model, name, arguments);
        calls.add(name + Arrays.toString(arguments) + " -> " + got);
        if (!got.equals(due)) {
            wrong = true;
            System.out.println(title + ", due is " + due + ":");
            calls.forEach(System.out::println);
        }
    }
}
