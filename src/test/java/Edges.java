import java.util.Arrays;

/**
 * The edges of one sentence of the document: what a method answers at the last values that are allowed, and what it
 * throws at the first that are not, in one scene after the other.
 */
final class Edges {
    private final String sentence;
    private final String method;
    private final Scene[] scenes;

    private Edges(String sentence, String method, Scene... scenes) {
        this.sentence = sentence;
        this.method = method;
        this.scenes = scenes;
    }

    static Edges of(String sentence, String method, Scene... scenes) {
        return new Edges(sentence, method, scenes);
    }

    Edges allowed(Object due, Object... arguments) {
        for (Scene scene : scenes) {
            Check.due(title(scene, arguments), Calls.answer(scene.made(), method, arguments), due);
        }
        return this;
    }

    /** Throws this exception, and leaves the state as it was. */
    Edges refused(Class<? extends RuntimeException> want, Object... arguments) {
        for (Scene scene : scenes) {
            SpectrumReallocator called = scene.made();
            Check.due(title(scene, arguments), Calls.answer(called, method, arguments), want.getName());
            Check.due(title(scene, arguments) + ", the state afterwards", Look.at(called), Look.at(scene.made()));
        }
        return this;
    }

    /** The same with each of these as the only argument. */
    Edges refusedEach(Class<? extends RuntimeException> want, int... arguments) {
        for (int argument : arguments) {
            refused(want, argument);
        }
        return this;
    }

    private String title(Scene scene, Object... arguments) {
        return sentence + ": " + scene + ", " + method + Arrays.toString(arguments);
    }
}
