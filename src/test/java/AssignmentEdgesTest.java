import java.util.NoSuchElementException;

/**
 * Each sentence on assignments, and of the promises 15 to 20, that names an edge: the empty set and the set of all, a
 * bit for no station, sets that are not feasible, a count up to 1000, no channel and all channels.
 */
final class AssignmentEdgesTest {
    private static final Class<IllegalArgumentException> ARGUMENT = IllegalArgumentException.class;
    private static final Class<IllegalStateException> STATE = IllegalStateException.class;
    private static final Class<IndexOutOfBoundsException> INDEX = IndexOutOfBoundsException.class;
    private static final Class<NoSuchElementException> ELEMENT = NoSuchElementException.class;
    private static final int LEAST = Integer.MIN_VALUE;
    private static final int MOST = Integer.MAX_VALUE;
    private static final String[] OF_SETS = {"isFeasible", "assign", "repack", "assignments", "channelsNeeded"};

    private AssignmentEdgesTest() {
    }

    public static void main(String[] args) {
        bitsForNoStation();
        emptySet();
        isFeasible();
        assign();
        notFeasible();
        repack();
        assignments();
        channelsNeeded();
        coreArguments();
        coreOfFeasibleSets();
        coresAtTheirEnds();
        Check.end("AssignmentEdgesTest");
    }

    private static void bitsForNoStation() {
        for (String method : OF_SETS) {
            Edges.of("15 to 19: if a bit is set for no station", method, Given.QUIET, Given.BIDDING, Given.OVER,
                    Given.DARK).refusedEach(ARGUMENT, -1, 8, 9, 15, 16, 1 << 12, 1 << 30, MOST, LEAST, LEAST | 7, -8);
            Edges.of("15 to 19: if a bit is set for no station", method, Given.FULL, Given.CROWDED, Given.FULL_OPEN)
                    .refusedEach(ARGUMENT, -1, 4096, 4097, 8191, LEAST, LEAST | 4095, -4096);
            Edges.of("15 to 19: if a bit is set for no station", method, Given.ELEVEN).refused(ARGUMENT, 2048);
            Edges.of("15 to 19: if a bit is set for no station", method, Given.NEW, Given.EMPTY_OPEN)
                    .refusedEach(ARGUMENT, 1, 2, -1, LEAST);
        }
        Edges.of("15: the last bits that are allowed", "isFeasible", Given.QUIET).allowed(true, 4).allowed(true, 7);
        Edges.of("15: the last bits that are allowed", "isFeasible", Given.FULL).allowed(true, 2048)
                .allowed(true, 4095);
        Edges.of("15: the last bits that are allowed", "isFeasible", Given.ELEVEN).allowed(true, 2047);
        Edges.of("16: the last bits that are allowed", "assign", Given.FULL).allowed(1, 2048).allowed(1, 4095);
        Edges.of("17: the last bits that are allowed", "repack", Given.FULL).allowed(1, 2048).allowed(12, 4095);
        Edges.of("18: the last bits that are allowed", "assignments", Given.FULL).allowed(8, 2048)
                .allowed(1000, 4095);
        Edges.of("19: the last bits that are allowed", "channelsNeeded", Given.FULL).allowed(1, 2048)
                .allowed(1, 4095);
    }

    private static void emptySet() {
        Scene[] scenes = {Given.NEW, Given.QUIET, Given.DARK, Given.BIDDING, Given.FULL, Given.EMPTY_OPEN};
        Edges.of("15: the empty set is feasible", "isFeasible", scenes).allowed(true, 0);
        Edges.of("16: no channels", "assign", scenes).allowed(0, 0);
        Edges.of("17: none has another one", "repack", scenes).allowed(0, 0);
        Edges.of("18: one assignment", "assignments", scenes).allowed(1, 0);
        Edges.of("19: none is needed", "channelsNeeded", scenes).allowed(0, 0);
        SpectrumReallocator x = Given.QUIET.made();
        x.assign(0);
        Check.due("16: the other stations have no channel then", Make.keptOf(x), "---");
        SpectrumReallocator y = Given.QUIET.made();
        y.repack(0);
        Check.due("17: the other stations have none then", Make.keptOf(y), "---");
    }

    private static void isFeasible() {
        Edges.of("15: no channel available", "isFeasible", Given.DARK).allowed(false, 1).allowed(false, 7);
        Scene bare = Scene.named("a station without channels").stations(1).call("addStation", 0, 5, 5);
        Edges.of("15: no channel that it can use", "isFeasible", bare).allowed(true, 1).allowed(false, 2)
                .allowed(false, 3);
        Scene apart = Scene.named("its channels are not available").call("addStation", 0x0f, 5, 5)
                .call("setAvailable", 0xf0);
        Edges.of("15: an available channel that it can use", "isFeasible", apart).allowed(false, 1);
        Scene meet = Scene.named("one of its channels is available").after(apart).call("setAvailable", 0xf8);
        Edges.of("15: an available channel that it can use", "isFeasible", meet).allowed(true, 1);
        Edges.of("15: as many as there are channels", "isFeasible", Given.CLIQUE).allowed(true, 0xff)
                .allowed(true, 0x1fe).allowed(false, 0x1ff);
        Scene both = Scene.named("apart by 2").after(Given.FULL).conflicts(Make.pairs(5, "ca"));
        Edges.of("15: four of eight channels apart by 2", "isFeasible", both).allowed(true, 0x0f).allowed(false, 0x1f);
        Scene odd = Scene.named("the odd channels").after(both).call("setAvailable", 0xaa);
        Edges.of("15: the odd channels", "isFeasible", odd).allowed(true, 0x1e).allowed(false, 0x1f);
        Scene three = Scene.named("channels too close").after(both).call("setAvailable", 0x3f);
        Edges.of("15: three of six channels apart by 2", "isFeasible", three).allowed(true, 7).allowed(false, 15);
    }

    private static void assign() {
        Edges.of("16: the number of different channels", "assign", Given.CLIQUE).allowed(8, 0xff).allowed(1, 256)
                .allowed(2, 3);
        SpectrumReallocator x = Given.CLIQUE.made();
        x.assign(0xff);
        Check.due("16: the first assignment up to the last channel", Make.keptOf(x), "01234567-");
        x.assign(0x1fe);
        Check.due("16: the other stations have no channel then", Make.keptOf(x), "-01234567");
        SpectrumReallocator y = Make.stations(3, "0-1ca;1-2ca;0-2a");
        y.assign(7);
        Check.due("16: lexicographically least", Make.keptOf(y), "020");
        y.setAvailable(0xc1);
        y.assign(3);
        Check.due("16: of the available ones", Make.keptOf(y), "06-");
    }

    private static void notFeasible() {
        for (String method : new String[] {"assign", "repack", "channelsNeeded"}) {
            Edges.of("16, 17, 19: if the set is not feasible", method, Given.DARK).refusedEach(STATE, 1, 4, 7);
            Edges.of("16, 17, 19: if the set is not feasible", method, Given.BIDDING, Given.OVER).refused(STATE, 7);
            Edges.of("16, 17, 19: if the set is not feasible", method, Given.STUCK).refused(STATE, 3);
            Edges.of("16, 17, 19: if the set is not feasible", method, Given.CLIQUE).refused(STATE, 0x1ff);
            Edges.of("16, 17, 19: the exception listed first", method, Given.DARK, Given.BIDDING, Given.STUCK)
                    .refusedEach(ARGUMENT, 15, LEAST | 7, -1);
        }
    }

    private static void repack() {
        Edges.of("17: the number that have another channel", "repack", Given.QUIET).allowed(0, 3).allowed(1, 7)
                .allowed(0, 1).allowed(1, 4);
        Edges.of("17: all of 12 had none", "repack", Given.FULL).allowed(12, 4095);
        SpectrumReallocator x = Make.stations(3, "");
        x.setAvailable(128);
        x.assign(7);
        x.setAvailable(255);
        Make.conflicts(x, "0-1c");
        Check.dueNumber("17: the last channel is kept by the earlier one", x.repack(7), 1);
        Check.due("17: kept if there is an assignment with it", Make.keptOf(x), "707");
        x.setAvailable(127);
        Check.dueNumber("17: not available any more", x.repack(7), 2);
        Check.due("17: the least beside the kept one", Make.keptOf(x), "100");
        x.assign(0);
        Check.dueNumber("17: had none", x.repack(7), 3);
        Check.due("17: as the first assignment then", Make.keptOf(x), "010");
        SpectrumReallocator y = new SpectrumReallocator();
        y.addStation(3, 1, 1);
        y.addStation(1, 1, 1);
        y.assign(1);
        Make.conflicts(y, "0-1c");
        Check.dueNumber("17: it cannot keep its channel in this set", y.repack(3), 2);
        Check.due("17: but another one", Make.keptOf(y), "10");
        Check.dueNumber("17: now both keep theirs", y.repack(3), 0);
        Check.dueNumber("17: what others had does not count", y.repack(2), 0);
        Check.due("17: the other stations have none then", Make.keptOf(y), "-0");
    }

    private static void assignments() {
        Scene numbers = Scene.named("sets of many sizes").call("addStation", 7, 1, 1).call("addStation", 7, 1, 1)
                .call("addStation", 7, 1, 1).call("addStation", 0x7f, 1, 1).call("addStation", 0xfc, 1, 1)
                .call("addStation", 0x0f, 1, 1).call("addStation", 0x38, 1, 1).call("addStation", 0x7f, 1, 1)
                .call("addStation", 0xc0, 1, 1).call("addStation", 0x7f, 1, 1).call("addStation", 1, 1, 1)
                .conflicts("3-4c;5-6c;7-8c");
        int threeTimes3 = 7;
        int times37 = 0x18;
        int times11 = 0x60;
        int times13 = 0x180;
        int times7 = 0x200;
        Edges.of("18: the parts", "assignments", numbers).allowed(27, threeTimes3).allowed(37, times37)
                .allowed(11, times11).allowed(13, times13).allowed(7, times7).allowed(1, 0x400);
        Edges.of("18: counted up to 1000", "assignments", numbers).allowed(999, threeTimes3 | times37)
                .allowed(1000, times7 | times11 | times13).allowed(999, threeTimes3 | times37 | 0x400)
                .allowed(1000, 0x7ff);
        Scene thousand = Scene.named("just 1000").call("addStation", 0x1f, 1, 1).call("addStation", 0xf8, 1, 1)
                .call("addStation", 0x3e, 1, 1).call("addStation", 0xff, 1, 1);
        Edges.of("18: counted up to 1000", "assignments", thousand).allowed(1000, 15).allowed(200, 11)
                .allowed(125, 7);
        Edges.of("18: the number, at most 1000", "assignments", Given.FULL).allowed(8, 1).allowed(512, 7)
                .allowed(1000, 15).allowed(1000, 4095);
        Edges.of("18: 0 if it is not feasible", "assignments", Given.DARK).allowed(0, 1).allowed(0, 7);
        Edges.of("18: 0 if it is not feasible", "assignments", Given.CLIQUE).allowed(1000, 0xff).allowed(0, 0x1ff);
        Scene one = Scene.named("one channel").after(Given.FULL).call("setAvailable", 128);
        Edges.of("18: just one", "assignments", one).allowed(1, 1).allowed(1, 4095);
    }

    private static void channelsNeeded() {
        Edges.of("19: the least number", "channelsNeeded", Given.CLIQUE).allowed(1, 1).allowed(2, 3).allowed(7, 0x7f)
                .allowed(8, 0xff).allowed(8, 0x1fe);
        Scene last = Scene.named("the last channel").after(Given.FULL).call("setAvailable", 128);
        Edges.of("19: one is available", "channelsNeeded", last).allowed(0, 0).allowed(1, 1).allowed(1, 4095);
        Scene own = Scene.named("a channel each").call("addStation", 1, 1, 1).call("addStation", 8, 1, 1)
                .call("addStation", 128, 1, 1);
        Edges.of("19: taken as a set", "channelsNeeded", own).allowed(3, 7).allowed(2, 5).allowed(1, 4);
        Scene share = Scene.named("one for all, not the first one").call("addStation", 0x83, 1, 1)
                .call("addStation", 0x84, 1, 1).call("addStation", 0x88, 1, 1);
        Edges.of("19: not as in the first assignment", "channelsNeeded", share).allowed(1, 7);
    }

    private static void coreArguments() {
        Edges of = Edges.of("20: if there is no such station", "core", Given.QUIET, Given.BIDDING, Given.DARK);
        for (int wrong : new int[] {-1, 3, LEAST, MOST, 32, -32}) {
            of.refused(INDEX, wrong, 0).refused(INDEX, wrong, 7).refused(INDEX, wrong, 8).refused(INDEX, wrong, -1);
        }
        Edges.of("20: if there is no such station", "core", Given.DARK).allowed(0, 0, 7).allowed(0, 2, 0);
        Edges.of("20: if there is no such station", "core", Given.CROWDED).allowed(7, 11, 4095)
                .refused(INDEX, 12, 4095);
        Edges.of("20: if there is no such station", "core", Given.NEW).refused(INDEX, 0, 0);
        Edges bits = Edges.of("20: if a bit is set for no station", "core", Given.QUIET, Given.BIDDING, Given.DARK);
        for (int wrong : new int[] {-1, 8, 15, 4096, LEAST, LEAST | 7, MOST}) {
            bits.refused(ARGUMENT, 0, wrong).refused(ARGUMENT, 2, wrong);
        }
        Edges.of("20: if a bit is set for no station", "core", Given.CROWDED).refused(ARGUMENT, 11, 4096)
                .refused(ARGUMENT, 0, 8191).refused(ARGUMENT, 0, -1);
    }

    private static void coreOfFeasibleSets() {
        Edges.of("20: if the set is feasible together with the station", "core", Given.QUIET, Given.FULL)
                .refused(ELEMENT, 0, 0).refused(ELEMENT, 0, 1).refused(ELEMENT, 2, 7).refused(ELEMENT, 1, 5);
        Edges.of("20: if the set is feasible together with the station", "core", Given.BIDDING)
                .refused(ELEMENT, 2, 1).refused(ELEMENT, 1, 0).allowed(2, 2, 3);
        Edges.of("20: the exception listed first", "core", Given.QUIET, Given.ONE, Given.BIDDING)
                .refused(INDEX, 3, 0).refused(INDEX, -1, 1).refused(ARGUMENT, 0, 9).refused(ARGUMENT, 0, LEAST);
        Edges.of("20: all that there is room for", "core", Given.CLIQUE).refused(ELEMENT, 8, 0x7f)
                .allowed(0xff, 8, 0xff).allowed(0xff, 8, 0x1ff).allowed(0x1fe, 0, 0x1ff);
    }

    private static void coresAtTheirEnds() {
        Edges.of("20: possibly empty", "core", Given.DARK).allowed(0, 0, 0).allowed(0, 0, 6).allowed(0, 2, 7);
        Scene bare = Scene.named("a station without channels").stations(2).call("addStation", 0, 5, 5);
        Edges.of("20: possibly empty", "core", bare).allowed(0, 2, 0).allowed(0, 2, 3).allowed(0, 2, 7);
        Edges.of("20: the set is not feasible without the station", "core", bare).allowed(4, 0, 6).allowed(4, 1, 4)
                .allowed(4, 0, 7);
        // A chain whose ends must have different channels, but cannot, as all others take turns between them.
        StringBuilder links = new StringBuilder("0-1c");
        for (int one = 1; one < 11; one++) {
            links.append(';').append(one).append('-').append(one + 1).append('c');
        }
        Scene chain = Scene.named("a chain of twelve").call("addStation", 1, 1, 1);
        for (int station = 1; station < 11; station++) {
            chain.call("addStation", 3, 1, 1);
        }
        chain.call("addStation", 1, 1, 1).conflicts(links.toString());
        Edges.of("20: the largest", "core", chain).allowed(2047, 11, 2047).allowed(2047, 11, 4095)
                .allowed(4094, 0, 4095).allowed(4095 - 32, 5, 4095).refused(ELEMENT, 11, 1023)
                .refused(ELEMENT, 11, 2046);
        Scene pairs = Scene.named("several reasons").stations(5).conflicts("0-4c;1-4c;2-4c;3-4c")
                .call("setAvailable", 1);
        Edges.of("20: the one that is least as an int", "core", pairs).allowed(1, 4, 15).allowed(2, 4, 14)
                .allowed(4, 4, 12).allowed(8, 4, 8).allowed(16, 0, 31);
        Scene fewest = Scene.named("a pair that is less, and one alone").stations(4).conflicts("0-1c;0-3c;1-3c;2-3ca")
                .call("setAvailable", 3);
        Edges.of("20: the fewest stations before the least int", "core", fewest).allowed(3, 3, 3).allowed(4, 3, 7);
    }
}
