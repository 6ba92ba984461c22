import java.util.function.Consumer;
import java.util.function.Supplier;

/** Compares answers with those that are due, and ends the test. */
final class Check {
    private static int checks = 0;
    private static int wrong = 0;

    private Check() {
    }

    static void due(String what, Object got, Object want) {
        checks++;
        if (!want.equals(got)) {
            wrong++;
            System.out.println(what + ": got " + got + ", due is " + want);
        }
    }

    static void dueNumber(String what, long got, long want) {
        due(what, got, want);
    }

    /** That a call throws exactly this exception. */
    static void throwing(String what, Class<? extends RuntimeException> want, Runnable call) {
        due(what, thrownBy(call), want.getSimpleName());
    }

    /** That a call throws exactly this exception, and that its object is then like one on which it was not called. */
    static void refused(String what, Class<? extends RuntimeException> want, Supplier<SpectrumReallocator> made,
            Consumer<SpectrumReallocator> call) {
        SpectrumReallocator called = made.get();
        SpectrumReallocator other = made.get();
        throwing(what, want, () -> call.accept(called));
        due(what + ", the state afterwards", Look.at(called), Look.at(other));
    }

    static String thrownBy(Runnable call) {
        try {
            call.run();
        } catch (Throwable thrown) {
            return thrown.getClass().getSimpleName();
        }
        return "nothing";
    }

    static void end(String test) {
        System.out.println(test + ": " + checks + " checks, " + wrong + " wrong");
        if (wrong != 0 || checks == 0) {
            System.exit(1);
        }
    }
}
