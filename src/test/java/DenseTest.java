import java.util.Random;

/** Many stations with many conflicts, the same ones always: where a search for assignments has most to do. */
final class DenseTest {
    private static final int NETS = 400;

    private final Random random;
    private final Pair pair;
    private final int stations;
    private final int everyone;

    private DenseTest(int net) {
        random = new Random(104729L * net + 5);
        pair = new Pair("net " + net);
        stations = 7 + random.nextInt(6);
        everyone = (1 << stations) - 1;
    }

    public static void main(String[] args) {
        int wrong = 0;
        for (int net = 0; net < NETS && wrong < 3; net++) {
            DenseTest test = new DenseTest(net);
            test.make();
            test.ask();
            test.holdAuction();
            if (test.pair.isWrong()) {
                wrong++;
            }
        }
        Check.dueNumber("wrong nets", wrong, 0);
        clique();
        Check.end("DenseTest");
    }

    private void make() {
        double channels = random.nextBoolean() ? 1 : 0.4 + 0.6 * random.nextDouble();
        for (int station = 0; station < stations; station++) {
            int set = 0;
            for (int channel = 0; channel < 8; channel++) {
                set |= random.nextDouble() < channels ? 1 << channel : 0;
            }
            int value = random.nextInt(3) == 0 ? 500 : random.nextInt(4) == 0 ? 0 : random.nextInt(10000);
            pair.call("addStation", set, value, 1 + random.nextInt(99));
        }
        double same = random.nextInt(5) == 0 ? 1 : random.nextDouble();
        double next = random.nextInt(3) == 0 ? 0 : random.nextDouble() * random.nextDouble();
        for (int one = 0; one < stations; one++) {
            String text = "";
            for (int other = one + 1; other < stations; other++) {
                String kinds = (random.nextDouble() < same ? "c" : "") + (random.nextDouble() < next ? "a" : "");
                String added = (text.isEmpty() ? "" : ";") + one + "-" + other + kinds;
                if (text.length() + added.length() > 40) {
                    conflicts(text);
                    text = "";
                    added = added.substring(1);
                }
                text += kinds.isEmpty() ? "" : text.isEmpty() ? one + "-" + other + kinds : added;
            }
            conflicts(text);
        }
        int available = 0;
        int number = 2 + random.nextInt(5);
        while (Integer.bitCount(available) < number) {
            available |= 1 << random.nextInt(8);
        }
        pair.call("setAvailable", available);
    }

    private void conflicts(String text) {
        for (int from = 0; from < text.length(); from += 4) {
            pair.call("append", Make.packed(text.substring(from, Math.min(from + 4, text.length()))));
        }
        if (!text.isEmpty()) {
            pair.call("setConflicts");
        }
    }

    private void ask() {
        pair.call("best");
        pair.call("leastLoss");
        pair.call("assignments", everyone);
        for (int station = 0; station < stations; station++) {
            pair.call("core", station, random.nextInt(everyone + 1));
        }
        for (int i = 0; i < 4; i++) {
            int set = random.nextInt(everyone + 1);
            pair.call("isFeasible", set);
            pair.call("assignments", set);
            pair.call("channelsNeeded", set);
            pair.call("assign", set);
            lookAtKept();
            pair.call("repack", random.nextInt(everyone + 1));
            lookAtKept();
        }
    }

    private void lookAtKept() {
        for (int station = 0; station < stations; station++) {
            pair.call("station", station, 5);
        }
    }

    private void holdAuction() {
        pair.call("setParticipates", random.nextInt(stations), false);
        pair.call("open", 1 + random.nextInt(1000));
        pair.call("run", 10 + random.nextInt(100));
        for (int station = 0; station < stations; station++) {
            pair.call("frozenBy", station);
            pair.call("price", station);
            pair.call("event", station);
        }
        pair.call("efficiencyBits");
        pair.call("meanPriceBits");
        pair.call("close");
        lookAtKept();
    }

    /** Twelve that are all in conflict: trying all channels one after the other would take minutes. */
    private static void clique() {
        SpectrumReallocator object = Make.stations(12, "");
        for (int one = 0; one < 12; one++) {
            StringBuilder text = new StringBuilder();
            for (int other = one + 1; other < 12; other++) {
                text.append(other == one + 1 ? "" : ";").append(one).append('-').append(other).append('c');
            }
            Make.conflicts(object, text.toString());
        }
        Check.dueNumber("best of a clique", object.best(), 0xff0);
        Check.dueNumber("core of a clique", object.core(11, 0x7ff), 0xff);
        Check.dueNumber("assignments of a clique", object.assignments(0xff), 1000);
        Check.dueNumber("no assignments of a clique", object.assignments(0x1ff), 0);
        Check.dueNumber("channels of a clique", object.channelsNeeded(0xf0f), 8);
        Make.conflicts(object, "0-1ca;2-3ca");
        Check.dueNumber("core with other kinds", object.core(11, 0x7ff), 0xff);
        Check.dueNumber("best with other kinds", object.best(), 0xff0);
    }
}
