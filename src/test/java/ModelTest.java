import java.lang.reflect.InvocationTargetException;
import java.lang.reflect.Method;
import java.util.ArrayList;
import java.util.Arrays;
import java.util.List;
import java.util.Random;

/** Makes many runs of calls, the same ones always, and compares every answer with the one of the model. */
final class ModelTest {
    private static final int RUNS = 1200;
    private static final int MOST_CALLS = 500;
    private static final String[] QUESTIONS = {"errorPosition", "hasConflict", "conflicts", "station", "volumeBits",
        "priceAt", "isFeasible", "assignments", "channelsNeeded", "core", "state", "price", "frozenBy", "auction",
        "event", "order", "best", "leastLoss", "efficiencyBits", "meanPriceBits", "count"};
    private static final String[] CHANGES = {"addStation", "removeStation", "setParticipates", "setValue",
        "setAvailable", "append", "setConflicts", "assign", "repack", "open", "round", "run", "back", "close", "cancel",
        "save", "restore"};

    private final Random random;
    private final int run;
    private final int wantedSize;
    private final SpectrumReallocator tested = new SpectrumReallocator();
    private final Model model = new Model();
    private final List<String> calls = new ArrayList<>();
    private boolean wrong = false;

    private ModelTest(int run) {
        this.run = run;
        random = new Random(7919L * run + 13);
        wantedSize = run % 8 == 0 ? 12 : 2 + random.nextInt(6);
    }

    public static void main(String[] args) {
        int wrongRuns = 0;
        for (int run = 0; run < RUNS && wrongRuns < 3; run++) {
            ModelTest test = new ModelTest(run);
            test.play();
            if (test.wrong) {
                wrongRuns++;
            }
        }
        Check.dueNumber("wrong runs", wrongRuns, 0);
        Check.end("ModelTest");
    }

    private void play() {
        while (calls.size() < wantedSize && !wrong) {
            call("addStation", channels(), random.nextInt(4) == 0 ? random.nextInt(10000) : random.nextInt(300),
                    1 + random.nextInt(99));
        }
        describe();
        int number = 100 + random.nextInt(MOST_CALLS - 200);
        while (calls.size() < number && !wrong) {
            step();
        }
    }

    private void step() {
        int kind = random.nextInt(100);
        if (kind < 8) {
            describe();
        } else if (kind < 16) {
            holdAuction();
        } else if (kind < 60) {
            anyCall(CHANGES[random.nextInt(CHANGES.length)]);
        } else {
            anyCall(QUESTIONS[random.nextInt(QUESTIONS.length)]);
        }
    }

    private void holdAuction() {
        call("open", 1 + random.nextInt(random.nextBoolean() ? 1000 : 60));
        for (int i = random.nextInt(4); i > 0; i--) {
            call("round", 10 + random.nextInt(30));
        }
        if (random.nextBoolean()) {
            call("back", random.nextInt(4));
        }
        call("run", 10 + random.nextInt(random.nextBoolean() ? 10 : 200));
        for (int station = 0; station < model.count(0); station++) {
            call("state", station);
            call("price", station);
            call("frozenBy", station);
            call("event", station);
        }
        call("efficiencyBits");
        call("meanPriceBits");
        call(random.nextInt(3) == 0 ? "cancel" : "close");
    }

    /** Appends a text that is often right, and has it read. */
    private void describe() {
        StringBuilder text = new StringBuilder();
        int size = Math.max(2, model.count(0));
        int pairs = 1 + random.nextInt(8);
        for (int i = 0; i < pairs; i++) {
            int one = random.nextInt(size);
            int other = (one + 1 + random.nextInt(size - 1)) % size;
            text.append(i == 0 ? "" : ";").append(one).append('-').append(other)
                    .append(random.nextInt(4) != 0 ? "c" : "").append(random.nextInt(3) == 0 ? "a" : "");
        }
        if (random.nextInt(4) == 0) {
            spoil(text);
        }
        text.setLength(Math.min(40, text.length()));
        int at = 0;
        while (at < text.length() && !wrong) {
            int packed = 0;
            for (int i = 0; i < 4; i++) {
                packed <<= 8;
                if (at < text.length() && random.nextInt(8) != 0) {
                    packed |= text.charAt(at);
                    at++;
                }
            }
            call("append", packed);
        }
        call("setConflicts");
        call("errorPosition");
    }

    private void spoil(StringBuilder text) {
        String signs = "0123456789-;ca1x!~";
        int at = random.nextInt(text.length());
        char sign = signs.charAt(random.nextInt(signs.length()));
        switch (random.nextInt(4)) {
            case 0:
                text.setCharAt(at, sign);
                break;
            case 1:
                text.insert(at, sign);
                break;
            case 2:
                text.deleteCharAt(at);
                break;
            default:
                text.setLength(at);
        }
    }

    private void anyCall(String name) {
        switch (name) {
            case "addStation":
                call(name, channels(), around(0, 9999), around(1, 99));
                break;
            case "setParticipates":
                call(name, station(), random.nextInt(3) != 0);
                break;
            case "setValue":
                call(name, station(), random.nextBoolean() ? random.nextInt(300) : around(0, 9999));
                break;
            case "setAvailable":
                call(name, random.nextInt(3) == 0 ? 255 : random.nextInt(10) == 0 ? around(0, 255) : channels());
                break;
            case "append":
                call(name, random.nextInt(3) == 0 ? random.nextInt() : Make.packed("0-1"));
                break;
            case "hasConflict":
                call(name, station(), station(), around(0, 1));
                break;
            case "conflicts":
                call(name, around(-1, model.conflicts(-1)));
                break;
            case "station":
                call(name, station(), around(0, 5));
                break;
            case "priceAt":
                call(name, station(), around(0, 1000));
                break;
            case "isFeasible":
            case "assign":
            case "repack":
            case "assignments":
            case "channelsNeeded":
                call(name, stations());
                break;
            case "core":
                call(name, station(), stations());
                break;
            case "open":
                call(name, around(1, 1000));
                break;
            case "round":
            case "run":
                call(name, around(10, 1000));
                break;
            case "auction":
                call(name, around(0, 6));
                break;
            case "count":
                call(name, around(0, 7));
                break;
            case "volumeBits":
            case "state":
            case "price":
            case "frozenBy":
                call(name, station());
                break;
            case "back":
            case "event":
            case "order":
                call(name, around(0, 11));
                break;
            default:
                call(name);
        }
    }

    private int channels() {
        switch (random.nextInt(4)) {
            case 0:
                return 255;
            case 1:
                return random.nextInt(256);
            case 2:
                return 1 << random.nextInt(8) | 1 << random.nextInt(8);
            default:
                return 7 << random.nextInt(6);
        }
    }

    private int station() {
        return random.nextInt(12) == 0 ? around(0, model.count(0)) : random.nextInt(Math.max(1, model.count(0)));
    }

    private int stations() {
        int everyone = (1 << model.count(0)) - 1;
        switch (random.nextInt(12)) {
            case 0:
                return random.nextInt();
            case 1:
                return everyone + 1;
            case 2:
            case 3:
                return everyone;
            default:
                return random.nextInt(everyone + 1);
        }
    }

    private int around(int least, int most) {
        switch (random.nextInt(16)) {
            case 0:
                return least - 1;
            case 1:
                return most + 1;
            case 2:
                return least;
            case 3:
                return most;
            case 4:
                return random.nextInt();
            default:
                return least + random.nextInt(most - least + 1);
        }
    }

    private void call(String name, Object... arguments) {
        if (wrong || calls.size() >= MOST_CALLS) {
            return;
        }
        Object got = answer(tested, name, arguments);
        Object due = answer(model, name, arguments);
        calls.add(name + Arrays.toString(arguments) + " -> " + got);
        if (!got.equals(due)) {
            wrong = true;
            System.out.println("run " + run + ", due is " + due + ":");
            calls.forEach(System.out::println);
        }
    }

    private static Object answer(Object object, String name, Object[] arguments) {
        Class<?>[] types = new Class<?>[arguments.length];
        for (int i = 0; i < types.length; i++) {
            types[i] = arguments[i] instanceof Boolean ? boolean.class : int.class;
        }
        try {
            Method method = object.getClass().getMethod(name, types);
            return method.invoke(object, arguments);
        } catch (InvocationTargetException thrown) {
            return thrown.getCause().getClass().getName();
        } catch (ReflectiveOperationException missing) {
            return missing.toString();
        }
    }
}
