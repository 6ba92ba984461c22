import java.util.ArrayList;
import java.util.Arrays;
import java.util.List;

/** A run of calls that brings a new object, or a new model, to where a test begins. */
final class Scene {
    private final String name;
    private final List<String> methods = new ArrayList<>();
    private final List<Object[]> arguments = new ArrayList<>();
    private final List<Boolean> refusals = new ArrayList<>();

    private Scene(String name) {
        this.name = name;
    }

    static Scene named(String name) {
        return new Scene(name);
    }

    /** Everything that leads to an earlier scene, and then more. */
    Scene after(Scene earlier) {
        methods.addAll(earlier.methods);
        arguments.addAll(earlier.arguments);
        refusals.addAll(earlier.refusals);
        return this;
    }

    Scene call(String method, Object... with) {
        return add(false, method, with);
    }

    /** A call that throws an exception. */
    Scene refused(String method, Object... with) {
        return add(true, method, with);
    }

    private Scene add(boolean refused, String method, Object... with) {
        methods.add(method);
        arguments.add(with);
        refusals.add(refused);
        return this;
    }

    /** Stations that can use all channels, with the values 100, 200, .. and the weight 10. */
    Scene stations(int number) {
        for (int station = 0; station < number; station++) {
            call("addStation", 255, 100 * (station + 1), 10);
        }
        return this;
    }

    /** Puts a text into the buffer. */
    Scene text(String text) {
        for (int from = 0; from < text.length(); from += 4) {
            call("append", Make.packed(text.substring(from, Math.min(from + 4, text.length()))));
        }
        return this;
    }

    Scene conflicts(String text) {
        for (String part : Make.parts(text)) {
            text(part).call("setConflicts");
        }
        return this;
    }

    SpectrumReallocator made() {
        return play(new SpectrumReallocator());
    }

    Model modelled() {
        return play(new Model());
    }

    private <T> T play(T object) {
        for (int i = 0; i < methods.size(); i++) {
            Object answer = Calls.answer(object, methods.get(i), arguments.get(i));
            if (Calls.isRefusal(answer) != refusals.get(i)) {
                Check.due("the scene " + name + ", " + methods.get(i) + Arrays.toString(arguments.get(i)), answer,
                        refusals.get(i) ? "an exception" : "no exception");
            }
        }
        return object;
    }

    @Override
    public String toString() {
        return name;
    }
}
