import java.util.Arrays;
import java.util.List;
import java.util.TreeSet;

/**
 * Makes each call with each of the values at the edges of what it allows, and beyond them, in each scene, and compares
 * the answer and the state afterwards with those of the model.
 */
final class GridTest {
    private static final int LEAST = Integer.MIN_VALUE;
    private static final int MOST = Integer.MAX_VALUE;
    private static final List<String> CHANGES = List.of("addStation", "removeStation", "setParticipates", "setValue",
            "setAvailable", "append", "setConflicts", "assign", "repack", "open", "round", "run", "back", "close",
            "cancel", "save", "restore");
    private static final Object[] CHANNELS = {LEAST, LEAST + 1, -256, -1, 0, 1, 128, 255, 256, 257, 511, MOST};
    private static final Object[] VALUES = {LEAST, -1, 0, 1, 9998, 9999, 10000, MOST};
    private static final Object[] WEIGHTS = {LEAST, -1, 0, 1, 2, 98, 99, 100, MOST};
    private static final Object[] KINDS = {LEAST, -1, 0, 1, 2, 32, MOST};
    private static final Object[] NUMBERS = {LEAST, -2, -1, 0, 1, 2, 3, 4, 5, 6, 7, 8, 32, MOST};
    private static final Object[] BASES = {LEAST, -1, 0, 1, 2, 9, 999, 1000, 1001, MOST};
    private static final Object[] DECREMENTS = {LEAST, -10, -1, 0, 1, 9, 10, 11, 190, 199, 999, 1000, 1001, MOST};
    private static final Object[] PLACES = {LEAST, -33, -32, -2, -1, 0, 1, 2, 3, 4, 8, 9, 10, 11, 12, 13, 32, 33, 49,
        50, 51, 99, 100, 101, 1000, MOST};
    private static final int[] CODES = {0, 1, 32, 33, 126, 127, 128, 129, 255};

    private final Scene scene;
    private final Model model;
    private final String stateBefore;
    private final int size;

    private GridTest(Scene scene) {
        this.scene = scene;
        model = scene.modelled();
        size = model.count(0);
        stateBefore = Look.at(scene.made());
        Check.due(scene + ", the state", stateBefore, Look.at(model.copy()));
    }

    public static void main(String[] args) {
        for (Scene scene : Given.ALL) {
            GridTest test = new GridTest(scene);
            test.changeStations();
            test.askAboutStations();
            test.packSets();
            test.holdAuctions();
            test.askTheRest();
        }
        Check.end("GridTest");
    }

    private void changeStations() {
        each("addStation", CHANNELS, VALUES, WEIGHTS);
        each("removeStation");
        each("setParticipates", stations(), new Object[] {false, true});
        each("setValue", stations(), VALUES);
        each("setAvailable", new Object[][] {CHANNELS});
        for (int shift = 0; shift < 32; shift += 8) {
            for (int code : CODES) {
                call("append", code << shift);
                call("append", code << shift | 0x21217e7e & ~(255 << shift));
            }
        }
        each("setConflicts");
    }

    private void askAboutStations() {
        each("errorPosition");
        each("hasConflict", stations(), stations(), KINDS);
        each("conflicts", new Object[][] {indexes()});
        each("station", stations(), NUMBERS);
        each("volumeBits", new Object[][] {stations()});
        each("priceAt", stations(), BASES);
    }

    private void packSets() {
        for (String method : new String[] {"isFeasible", "assign", "repack", "assignments", "channelsNeeded"}) {
            each(method, new Object[][] {sets()});
        }
        each("core", stations(), sets());
    }

    private void holdAuctions() {
        each("open", new Object[][] {BASES});
        each("round", new Object[][] {DECREMENTS});
        each("run", new Object[][] {DECREMENTS});
        each("back", new Object[][] {PLACES});
        each("close");
        each("cancel");
        each("state", new Object[][] {stations()});
        each("price", new Object[][] {stations()});
        each("frozenBy", new Object[][] {stations()});
        each("auction", new Object[][] {NUMBERS});
        each("event", new Object[][] {PLACES});
        each("order", new Object[][] {PLACES});
    }

    private void askTheRest() {
        for (String method : new String[] {"best", "leastLoss", "efficiencyBits", "meanPriceBits", "save", "restore"}) {
            each(method);
        }
        each("count", new Object[][] {NUMBERS});
    }

    private Object[] stations() {
        return sorted(LEAST, -32, -1, 0, 1, size - 1, size, size + 1, 11, 12, 31, 32, 32 + size - 1, MOST);
    }

    private Object[] sets() {
        int everyone = (1 << size) - 1;
        return sorted(LEAST, LEAST | 1, -everyone - 1, -1, 0, 1, 2, everyone >> 1, everyone - 1, everyone, everyone + 1,
                2 * everyone + 1, 4095, 4096, 4097, MOST);
    }

    private Object[] indexes() {
        int length = model.conflicts(-1);
        return sorted(LEAST, -2, -1, 0, 1, length - 1, length, length + 1, MOST);
    }

    private static Object[] sorted(Integer... numbers) {
        return new TreeSet<>(Arrays.asList(numbers)).toArray();
    }

    /** Makes a call with each choice of its arguments. */
    private void each(String method, Object[]... choices) {
        each(method, choices, new Object[choices.length], 0);
    }

    private void each(String method, Object[][] choices, Object[] arguments, int chosen) {
        if (chosen == choices.length) {
            call(method, arguments.clone());
            return;
        }
        for (Object choice : choices[chosen]) {
            arguments[chosen] = choice;
            each(method, choices, arguments, chosen + 1);
        }
    }

    private void call(String method, Object... arguments) {
        String title = scene + ", " + method + Arrays.toString(arguments);
        SpectrumReallocator called = scene.made();
        Model due = model.copy();
        Object answer = Calls.answer(due, method, arguments);
        Check.due(title, Calls.answer(called, method, arguments), answer);
        boolean mayChange = CHANGES.contains(method) && !Calls.isRefusal(answer) || method.equals("setConflicts");
        Check.due(title + ", the state afterwards", Look.at(called), mayChange ? Look.at(due) : stateBefore);
    }
}
