import java.util.Random;

/** Makes many runs of calls, the same ones always, and compares every answer with the one of the model. */
final class ModelTest {
    private static final int RUNS = 1200;
    private static final String[] QUESTIONS = {"errorPosition", "hasConflict", "conflicts", "station", "volumeBits",
        "priceAt", "isFeasible", "assignments", "channelsNeeded", "core", "state", "price", "frozenBy", "auction",
        "event", "order", "best", "leastLoss", "efficiencyBits", "meanPriceBits", "count"};
    private static final String[] CHANGES = {"addStation", "removeStation", "setParticipates", "setValue",
        "setAvailable", "append", "setConflicts", "assign", "repack", "open", "round", "run", "back", "close", "cancel",
        "save", "restore"};

    private final Random random;
    private final int wantedSize;
    // With few channels for many conflicts, many sets are not feasible.
    private final boolean crowded;
    private final Pair pair;
    private final Model model;

    private ModelTest(int run) {
        pair = new Pair("run " + run);
        model = pair.model;
        random = new Random(7919L * run + 13);
        wantedSize = run % 8 == 0 ? 12 : 2 + random.nextInt(6);
        crowded = run % 4 != 0 || random.nextBoolean();
    }

    public static void main(String[] args) {
        int wrongRuns = 0;
        for (int run = 0; run < RUNS && wrongRuns < 3; run++) {
            ModelTest test = new ModelTest(run);
            test.play();
            if (test.pair.isWrong()) {
                wrongRuns++;
            }
        }
        Check.dueNumber("wrong runs", wrongRuns, 0);
        Check.end("ModelTest");
    }

    private void play() {
        while (pair.size() < wantedSize && !pair.isWrong()) {
            pair.call("addStation", channels(), random.nextInt(4) == 0 ? random.nextInt(10000) : random.nextInt(300),
                    1 + random.nextInt(99));
        }
        for (int i = 0; i < wantedSize / 3; i++) {
            describe();
        }
        // Some runs go on to the last call for which there are promises.
        int number = random.nextInt(8) == 0 ? Pair.MOST_CALLS : 100 + random.nextInt(Pair.MOST_CALLS - 200);
        while (pair.size() < number && !pair.isWrong()) {
            step();
        }
    }

    private void step() {
        int kind = random.nextInt(100);
        if (kind < 8) {
            describe();
        } else if (kind < 16) {
            holdAuction();
        } else if (kind < 60) {
            anyCall(CHANGES[random.nextInt(CHANGES.length)]);
        } else {
            anyCall(QUESTIONS[random.nextInt(QUESTIONS.length)]);
        }
    }

    private void holdAuction() {
        pair.call("open", 1 + random.nextInt(random.nextBoolean() ? 1000 : 60));
        for (int i = random.nextInt(4); i > 0; i--) {
            pair.call("round", 10 + random.nextInt(30));
        }
        if (random.nextBoolean()) {
            pair.call("back", random.nextInt(4));
        }
        pair.call("run", 10 + random.nextInt(random.nextBoolean() ? 10 : 200));
        for (int station = 0; station < model.count(0); station++) {
            pair.call("state", station);
            pair.call("price", station);
            pair.call("frozenBy", station);
            pair.call("event", station);
        }
        pair.call("efficiencyBits");
        pair.call("meanPriceBits");
        pair.call(random.nextInt(3) == 0 ? "cancel" : "close");
    }

    /** Appends a text that is often right, and has it read. */
    private void describe() {
        StringBuilder text = new StringBuilder();
        int size = Math.max(2, model.count(0));
        int pairs = crowded ? 8 : 1 + random.nextInt(8);
        for (int i = 0; i < pairs; i++) {
            int one = random.nextInt(size);
            int other = (one + 1 + random.nextInt(size - 1)) % size;
            text.append(i == 0 ? "" : ";").append(one).append('-').append(other)
                    .append(random.nextInt(crowded ? 8 : 4) != 0 ? "c" : "").append(random.nextInt(3) == 0 ? "a" : "");
        }
        if (text.length() > 40) {
            text.setLength(text.lastIndexOf(";", 40));
        }
        if (random.nextInt(4) == 0) {
            spoil(text);
        }
        text.setLength(Math.min(40, text.length()));
        int at = 0;
        while (at < text.length()) {
            int packed = 0;
            for (int i = 0; i < 4; i++) {
                packed <<= 8;
                if (at < text.length() && random.nextInt(8) != 0) {
                    packed |= text.charAt(at);
                    at++;
                }
            }
            pair.call("append", packed);
        }
        pair.call("setConflicts");
        pair.call("errorPosition");
    }

    private void spoil(StringBuilder text) {
        String signs = "0123456789-;ca1x!~";
        int at = random.nextInt(text.length());
        char sign = signs.charAt(random.nextInt(signs.length()));
        switch (random.nextInt(4)) {
            case 0:
                text.setCharAt(at, sign);
                break;
            case 1:
                text.insert(at, sign);
                break;
            case 2:
                text.deleteCharAt(at);
                break;
            default:
                text.setLength(at);
        }
    }

    private void anyCall(String name) {
        switch (name) {
            case "addStation":
                pair.call(name, channels(), around(0, 9999), around(1, 99));
                break;
            case "setParticipates":
                pair.call(name, station(), random.nextInt(3) != 0);
                break;
            case "setValue":
                pair.call(name, station(), random.nextBoolean() ? random.nextInt(300) : around(0, 9999));
                break;
            case "setAvailable":
                pair.call(name, random.nextInt(3) == 0 ? 255 : random.nextInt(10) == 0 ? around(0, 255) : channels());
                break;
            case "append":
                pair.call(name, random.nextInt(3) == 0 ? random.nextInt() : Make.packed("0-1"));
                break;
            case "hasConflict":
                pair.call(name, station(), station(), around(0, 1));
                break;
            case "conflicts":
                pair.call(name, around(-1, model.conflicts(-1)));
                break;
            case "station":
                pair.call(name, station(), around(0, 5));
                break;
            case "priceAt":
                pair.call(name, station(), around(0, 1000));
                break;
            case "isFeasible":
            case "assign":
            case "repack":
            case "assignments":
            case "channelsNeeded":
                pair.call(name, stations());
                break;
            case "core":
                pair.call(name, station(), stations());
                break;
            case "open":
                pair.call(name, around(1, 1000));
                break;
            case "round":
            case "run":
                pair.call(name, around(10, 1000));
                break;
            case "auction":
                pair.call(name, around(0, 6));
                break;
            case "count":
                pair.call(name, around(0, 7));
                break;
            case "volumeBits":
            case "state":
            case "price":
            case "frozenBy":
                pair.call(name, station());
                break;
            case "back":
            case "event":
            case "order":
                pair.call(name, around(0, 11));
                break;
            default:
                pair.call(name);
        }
    }

    private int channels() {
        if (crowded && random.nextInt(8) != 0) {
            return 1 + random.nextInt(7);
        }
        switch (random.nextInt(4)) {
            case 0:
                return 255;
            case 1:
                return random.nextInt(256);
            case 2:
                return 1 << random.nextInt(8) | 1 << random.nextInt(8);
            default:
                return 7 << random.nextInt(6);
        }
    }

    private int station() {
        return random.nextInt(12) == 0 ? around(0, model.count(0)) : random.nextInt(Math.max(1, model.count(0)));
    }

    private int stations() {
        int everyone = (1 << model.count(0)) - 1;
        switch (random.nextInt(12)) {
            case 0:
                return random.nextInt();
            case 1:
                return everyone + 1;
            case 2:
            case 3:
                return everyone;
            default:
                return random.nextInt(everyone + 1);
        }
    }

    private int around(int least, int most) {
        switch (random.nextInt(16)) {
            case 0:
                return least - 1;
            case 1:
                return most + 1;
            case 2:
                return least;
            case 3:
                return most;
            case 4:
                return random.nextInt();
            default:
                return least + random.nextInt(most - least + 1);
        }
    }
}
