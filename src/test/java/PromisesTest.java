import java.util.NoSuchElementException;

/** What each promise of the document says, with ordinary inputs, at the edges that it names, and with wrong inputs. */
final class PromisesTest {
    private static final Class<IllegalArgumentException> ARGUMENT = IllegalArgumentException.class;
    private static final Class<IllegalStateException> STATE = IllegalStateException.class;
    private static final Class<IndexOutOfBoundsException> INDEX = IndexOutOfBoundsException.class;
    private static final Class<UnsupportedOperationException> UNSUPPORTED = UnsupportedOperationException.class;
    private static final Class<NoSuchElementException> ELEMENT = NoSuchElementException.class;
    private static final int LEAST = Integer.MIN_VALUE;
    private static final int MOST = Integer.MAX_VALUE;

    private PromisesTest() {
    }

    public static void main(String[] args) {
        newObject();
        addStation();
        removeStation();
        setParticipates();
        setValue();
        setAvailable();
        append();
        setConflicts();
        errorPosition();
        hasConflict();
        conflicts();
        station();
        volumeBits();
        priceAt();
        isFeasible();
        assign();
        repack();
        assignments();
        channelsNeeded();
        core();
        open();
        round();
        run();
        back();
        close();
        cancel();
        state();
        price();
        frozenBy();
        auction();
        event();
        order();
        best();
        leastLoss();
        efficiencyBits();
        meanPriceBits();
        count();
        save();
        restore();
        Check.end("PromisesTest");
    }

    // Objects that several promises are tried on

    private static SpectrumReallocator quiet() {
        return Given.QUIET.made();
    }

    private static SpectrumReallocator bidding() {
        return Given.BIDDING.made();
    }

    private static SpectrumReallocator over() {
        return Given.OVER.made();
    }

    private static SpectrumReallocator full() {
        return Given.FULL.made();
    }

    private static SpectrumReallocator rivals() {
        return Given.RIVALS.made();
    }

    // Promises 1 to 14: stations and conflicts

    private static void newObject() {
        SpectrumReallocator x = new SpectrumReallocator();
        int[] counts = {0, 0, 0, 8, 0, 0, 0, 0};
        for (int what = 0; what < counts.length; what++) {
            Check.dueNumber("1: count " + what, x.count(what), counts[what]);
        }
        Check.dueNumber("1: error position", x.errorPosition(), -1);
        Check.dueNumber("1: conflicts", x.conflicts(-1), 0);
        Check.dueNumber("1: best", x.best(), 0);
        Check.due("1: feasible", x.isFeasible(0), true);
        Check.throwing("1: station", INDEX, () -> x.station(0, 0));
        Check.throwing("1: auction", STATE, () -> x.auction(0));
        Check.throwing("1: restore", STATE, x::restore);
        Check.throwing("1: remove", STATE, x::removeStation);
        Check.dueNumber("1: available", x.setAvailable(0), 255);
    }

    private static void addStation() {
        SpectrumReallocator x = new SpectrumReallocator();
        Check.dueNumber("2: first", x.addStation(255, 9999, 99), 0);
        Check.dueNumber("2: second", x.addStation(0, 0, 1), 1);
        Check.due("2: properties", properties(x, 0), "255 9999 99 1 0 -1");
        Check.due("2: least properties", properties(x, 1), "0 0 1 1 0 -1");
        for (int number = 2; number < 12; number++) {
            Check.dueNumber("2: number", x.addStation(number, number, number), number);
        }
        Check.dueNumber("2: stations", x.count(0), 12);
        SpectrumReallocator more = Make.stations(2, "0-1c");
        Check.dueNumber("2: assignments before", more.assignments(3), 56);
        more.addStation(255, 1, 1);
        Check.dueNumber("2: assignments with one more", more.assignments(7), 448);
        int[][] wrong = {{256, 1, 1}, {-1, 1, 1}, {LEAST, 1, 1}, {1, -1, 1}, {1, 10000, 1}, {1, 1, 0}, {1, 1, 100},
            {1, 1, -1}, {1, LEAST, 1}, {1, 1, MOST}};
        for (int[] w : wrong) {
            Check.refused("2: wrong", ARGUMENT, PromisesTest::quiet, o -> o.addStation(w[0], w[1], w[2]));
            Check.refused("2: wrong in an auction", ARGUMENT, PromisesTest::over, o -> o.addStation(w[0], w[1], w[2]));
            Check.refused("2: wrong and full", ARGUMENT, PromisesTest::full, o -> o.addStation(w[0], w[1], w[2]));
        }
        Check.refused("2: in an auction", UNSUPPORTED, PromisesTest::bidding, o -> o.addStation(1, 1, 1));
        Check.refused("2: in an auction that is over", UNSUPPORTED, PromisesTest::over, o -> o.addStation(1, 1, 1));
        Check.refused("2: full", STATE, PromisesTest::full, o -> o.addStation(1, 1, 1));
        Check.refused("2: full in an auction", UNSUPPORTED, () -> opened(full(), 100), o -> o.addStation(1, 1, 1));
    }

    private static void removeStation() {
        SpectrumReallocator x = Make.stations(4, "0-1c;1-3ca;2-3a");
        x.assign(15);
        Check.due("3: kept", Make.keptOf(x), "0103");
        Check.dueNumber("3: remaining", x.removeStation(), 3);
        Check.due("3: conflicts", Make.conflictsOf(x), "0-1c");
        Check.due("3: kept by the others", Make.keptOf(x), "010");
        Check.dueNumber("3: degree", x.station(1, 4), 1);
        Check.dueNumber("3: taking part", x.count(4), 3);
        Check.dueNumber("3: again", x.addStation(3, 5, 6), 3);
        Check.due("3: conflicts of the new one", Make.conflictsOf(x), "0-1c");
        Check.due("3: a new station", properties(x, 3), "3 5 6 1 0 -1");
        Check.due("3: bit for the removed one", x.isFeasible(8), true);
        for (int left = 3; left >= 0; left--) {
            Check.dueNumber("3: down to none", x.removeStation(), left);
        }
        Check.dueNumber("3: none", x.count(0), 0);
        Check.throwing("3: no set with it", ARGUMENT, () -> x.isFeasible(1));
        Check.refused("3: no stations", STATE, SpectrumReallocator::new, SpectrumReallocator::removeStation);
        Check.refused("3: in an auction", UNSUPPORTED, PromisesTest::bidding, SpectrumReallocator::removeStation);
        Check.refused("3: no stations in an auction", UNSUPPORTED, () -> opened(new SpectrumReallocator(), 1),
                SpectrumReallocator::removeStation);
    }

    private static void setParticipates() {
        SpectrumReallocator x = Make.stations(3, "");
        Check.due("4: at first", x.setParticipates(1, true), true);
        Check.due("4: not any more", x.setParticipates(1, false), true);
        Check.due("4: not before", x.setParticipates(1, false), false);
        Check.dueNumber("4: property", x.station(1, 3), 0);
        Check.dueNumber("4: another", x.station(2, 3), 1);
        Check.dueNumber("4: count", x.count(4), 2);
        Check.due("4: again", x.setParticipates(1, true), false);
        Check.dueNumber("4: property again", x.station(1, 3), 1);
        for (int station : new int[] {-1, 3, 32, LEAST, MOST}) {
            Check.refused("4: station", INDEX, PromisesTest::quiet, o -> o.setParticipates(station, false));
            Check.refused("4: station in an auction", INDEX, PromisesTest::bidding,
                    o -> o.setParticipates(station, false));
        }
        Check.refused("4: in an auction", UNSUPPORTED, PromisesTest::bidding, o -> o.setParticipates(2, false));
    }

    private static void setValue() {
        SpectrumReallocator x = Make.stations(2, "");
        Check.dueNumber("5: previous", x.setValue(1, 9999), 200);
        Check.dueNumber("5: greatest", x.setValue(1, 0), 9999);
        Check.dueNumber("5: least", x.station(1, 1), 0);
        Check.dueNumber("5: another", x.station(0, 1), 100);
        for (int station : new int[] {-1, 3, LEAST}) {
            Check.refused("5: station", INDEX, PromisesTest::quiet, o -> o.setValue(station, 1));
            Check.refused("5: station and value", INDEX, PromisesTest::bidding, o -> o.setValue(station, -1));
        }
        for (int value : new int[] {-1, 10000, LEAST, MOST}) {
            Check.refused("5: value", ARGUMENT, PromisesTest::quiet, o -> o.setValue(0, value));
            Check.refused("5: value in an auction", ARGUMENT, PromisesTest::bidding, o -> o.setValue(0, value));
        }
        Check.refused("5: in an auction", UNSUPPORTED, PromisesTest::bidding, o -> o.setValue(0, 1));
    }

    private static void setAvailable() {
        SpectrumReallocator x = Make.stations(2, "0-1c");
        x.assign(3);
        Check.dueNumber("6: all at first", x.setAvailable(0x90), 255);
        Check.dueNumber("6: previous", x.setAvailable(0), 0x90);
        Check.dueNumber("6: none", x.count(3), 0);
        Check.due("6: none feasible", x.isFeasible(1), false);
        Check.due("6: the kept assignment stays", Make.keptOf(x), "01");
        Check.dueNumber("6: none before", x.setAvailable(255), 0);
        Check.dueNumber("6: all", x.count(3), 8);
        Check.due("6: feasible", x.isFeasible(3), true);
        for (int channels : new int[] {256, -1, LEAST, 0x1ff}) {
            Check.refused("6: channels", ARGUMENT, PromisesTest::quiet, o -> o.setAvailable(channels));
            Check.refused("6: channels in an auction", ARGUMENT, PromisesTest::bidding, o -> o.setAvailable(channels));
        }
        Check.refused("6: in an auction", UNSUPPORTED, PromisesTest::bidding, o -> o.setAvailable(255));
    }

    private static void append() {
        SpectrumReallocator x = Make.stations(2, "");
        Check.dueNumber("7: nothing", x.append(0), 0);
        Check.dueNumber("7: zeros skipped", x.append(0x30002d00), 2);
        Check.dueNumber("7: last byte", x.append(0x00000031), 3);
        Check.dueNumber("7: count", x.count(6), 3);
        Check.dueNumber("7: read in order", x.setConflicts(), 1);
        Check.dueNumber("7: edges of what is allowed", x.append(0x217e217e), 4);
        for (int i = 0; i < 9; i++) {
            x.append(0x21212121);
        }
        Check.dueNumber("7: nothing more", x.append(0), 40);
        Check.throwing("7: full", STATE, () -> x.append(0x21));
        Check.dueNumber("7: still full", x.count(6), 40);
        SpectrumReallocator inAuction = bidding();
        Check.dueNumber("7: in an auction", inAuction.append(0x3b30), 6);
        int[] wrong = {0x20, 0x7f, 0x80, 0xff, 0x30302000, 0x7f000000, 0x80000000, -1, 1, 0x21210121};
        for (int packed : wrong) {
            Check.refused("7: character " + packed, ARGUMENT, PromisesTest::quiet, o -> o.append(packed));
            Check.refused("7: character in a full one " + packed, ARGUMENT, () -> filled(40), o -> o.append(packed));
        }
        Check.refused("7: one too many", STATE, () -> filled(37), o -> o.append(0x30303030));
        Check.dueNumber("7: just enough", filled(37).append(0x30300030), 40);
    }

    private static void setConflicts() {
        SpectrumReallocator x = Make.stations(12, "");
        Check.dueNumber("8: pairs", read(x, "0-1c;11-10ca;2-3a;4-5"), 4);
        Check.due("8: set", Make.conflictsOf(x), "0-1c;2-3a;10-11ca");
        Check.dueNumber("8: empty afterwards", x.count(6), 0);
        Check.dueNumber("8: what a pair had before", read(x, "1-0a;10-11;2-3c"), 3);
        Check.due("8: replaced", Make.conflictsOf(x), "0-1a;2-3c");
        Check.dueNumber("8: again counted again", read(x, "0-1c;5-6ca;1-0;6-5a;5-6c"), 5);
        Check.due("8: the later one counts", Make.conflictsOf(x), "2-3c;5-6c");
        Make.text(x, "7-8c;9-9c");
        Check.throwing("8: error", ARGUMENT, x::setConflicts);
        Check.due("8: nothing changed", Make.conflictsOf(x), "2-3c;5-6c");
        Check.dueNumber("8: empty after an error", x.count(6), 0);
        Check.throwing("8: empty text", ARGUMENT, x::setConflicts);
        Check.dueNumber("8: its position", x.errorPosition(), 0);
        Check.due("8: feasibility follows", Make.stations(2, "").isFeasible(3), true);
        Check.refused("8: in an auction", UNSUPPORTED, PromisesTest::bidding, SpectrumReallocator::setConflicts);
        Check.refused("8: an error in an auction", UNSUPPORTED, PromisesTest::rivals,
                SpectrumReallocator::setConflicts);
        SpectrumReallocator y = bidding();
        Check.throwing("8: in an auction", UNSUPPORTED, y::setConflicts);
        Check.dueNumber("8: the buffer stays", y.count(6), 4);
        Check.dueNumber("8: the error position stays", y.errorPosition(), -1);
        y.cancel();
        Check.dueNumber("8: read later", y.setConflicts(), 1);
        Check.due("8: set later", Make.conflictsOf(y), "0-1c;0-2a;1-2ca");
    }

    private static void errorPosition() {
        errorAt("", 0);
        errorAt("0", 1);
        errorAt("0-", 2);
        errorAt("0-1", -1);
        errorAt("0-1;", 4);
        errorAt("0-1ca;", 6);
        errorAt("0-1ac", 4);
        errorAt("0-1cc", 4);
        errorAt("0-1aa", 4);
        errorAt("0-1x", 3);
        errorAt("x", 0);
        errorAt("-", 0);
        errorAt(";", 0);
        errorAt("c", 0);
        errorAt("0c1", 1);
        errorAt("0--1", 2);
        errorAt("0;1", 1);
        errorAt("0-0", 2);
        errorAt("0-00", 2);
        errorAt("00-1", 1);
        errorAt("01-2", 1);
        errorAt("0-01", 2);
        errorAt("1-01", 3);
        errorAt("1-0c;1-1", 7);
        errorAt("10-1", -1);
        errorAt("10-10", 3);
        errorAt("0-10", -1);
        errorAt("0-10c;10-0a;1-10", -1);
        errorAt("11-0", -1);
        errorAt("0-11", -1);
        errorAt("0-111", 4);
        errorAt("0-101", 4);
        errorAt("12-0", 1);
        errorAt("0-12", 3);
        errorAt("9-8;;", 4);
        errorAt("9-8;0", 5);
        errorAt("2-3a;3-2c;4-5ca;6-7!", 19);
        SpectrumReallocator eleven = Make.stations(11, "");
        Make.text(eleven, "11-0");
        Check.throwing("9: read as 11", ARGUMENT, eleven::setConflicts);
        Check.dueNumber("9: no station 11", eleven.errorPosition(), 0);
        Make.text(eleven, "0-11");
        Check.throwing("9: read as 11 again", ARGUMENT, eleven::setConflicts);
        Check.dueNumber("9: no second station 11", eleven.errorPosition(), 2);
        SpectrumReallocator few = Make.stations(2, "");
        Make.text(few, "5-0");
        Check.throwing("9: no such station", ARGUMENT, few::setConflicts);
        Check.dueNumber("9: its first digit", few.errorPosition(), 0);
        Make.text(few, "0-10c");
        Check.throwing("9: no station 10", ARGUMENT, few::setConflicts);
        Check.dueNumber("9: read as 10", few.errorPosition(), 2);
        Make.text(few, "1-1");
        Check.throwing("9: the same", ARGUMENT, few::setConflicts);
        Check.dueNumber("9: the same, its first digit", few.errorPosition(), 2);
        Make.text(few, "?");
        Check.dueNumber("9: not read yet", few.errorPosition(), 2);
        Check.throwing("9: now", ARGUMENT, few::setConflicts);
        Check.dueNumber("9: read", few.errorPosition(), 0);
        few.save();
        read(few, "0-1");
        Check.dueNumber("9: no error any more", few.errorPosition(), -1);
        Make.text(few, "0");
        Check.throwing("9: ends too early", ARGUMENT, few::setConflicts);
        few.restore();
        Check.dueNumber("9: not restored", few.errorPosition(), 1);
        few.open(100);
        Make.text(few, "0-1");
        Check.throwing("9: in an auction", UNSUPPORTED, few::setConflicts);
        Check.dueNumber("9: stays in an auction", few.errorPosition(), 1);
        Check.dueNumber("9: no text was read", new SpectrumReallocator().errorPosition(), -1);
    }

    private static void hasConflict() {
        SpectrumReallocator x = Make.stations(12, "0-1c;1-2a;10-11ca");
        Check.due("10: kind 0", x.hasConflict(0, 1, 0), true);
        Check.due("10: the other way", x.hasConflict(1, 0, 0), true);
        Check.due("10: not kind 1", x.hasConflict(0, 1, 1), false);
        Check.due("10: kind 1", x.hasConflict(2, 1, 1), true);
        Check.due("10: not kind 0", x.hasConflict(1, 2, 0), false);
        Check.due("10: both, 0", x.hasConflict(11, 10, 0), true);
        Check.due("10: both, 1", x.hasConflict(10, 11, 1), true);
        Check.due("10: none", x.hasConflict(0, 2, 0), false);
        Check.due("10: the same", x.hasConflict(1, 1, 0), false);
        Check.due("10: the same, 1", x.hasConflict(1, 1, 1), false);
        Check.due("10: in an auction", bidding().hasConflict(0, 1, 0), true);
        for (int station : new int[] {-1, 3, LEAST, 33}) {
            Check.refused("10: one", INDEX, PromisesTest::quiet, o -> o.hasConflict(station, 0, 0));
            Check.refused("10: other", INDEX, PromisesTest::quiet, o -> o.hasConflict(0, station, 2));
            Check.refused("10: both", INDEX, PromisesTest::quiet, o -> o.hasConflict(station, station, -1));
        }
        for (int kind : new int[] {-1, 2, MOST}) {
            Check.refused("10: kind", ARGUMENT, PromisesTest::quiet, o -> o.hasConflict(0, 1, kind));
            Check.refused("10: kind with the same", ARGUMENT, PromisesTest::quiet, o -> o.hasConflict(0, 0, kind));
        }
    }

    private static void conflicts() {
        SpectrumReallocator x = Make.stations(12, "10-9a;11-0c;2-10ca;2-1c;3-2a;10-11ca");
        String text = "0-11c;1-2c;2-3a;2-10ca;9-10a;10-11ca";
        Check.dueNumber("11: length", x.conflicts(-1), text.length());
        Check.due("11: text", Make.conflictsOf(x), text);
        Check.throwing("11: behind the end", INDEX, () -> x.conflicts(text.length()));
        Check.dueNumber("11: empty", Make.stations(2, "").conflicts(-1), 0);
        for (int index : new int[] {-2, LEAST, 10, 11, MOST}) {
            Check.refused("11: index", INDEX, PromisesTest::quiet, o -> o.conflicts(index));
        }
        Check.refused("11: none", INDEX, SpectrumReallocator::new, o -> o.conflicts(0));
        SpectrumReallocator all = full();
        StringBuilder every = new StringBuilder();
        for (int one = 0; one < 12; one++) {
            for (int other = one + 1; other < 12; other++) {
                every.append(every.length() == 0 ? "" : ";").append(one).append('-').append(other).append("ca");
            }
        }
        Make.conflicts(all, every.toString());
        Check.dueNumber("11: all pairs", all.conflicts(-1), every.length());
        for (int index = 0; index < every.length(); index += 7) {
            Check.dueNumber("11: at " + index, all.conflicts(index), every.charAt(index));
        }
        Check.dueNumber("11: last", all.conflicts(every.length() - 1), 'a');
        Check.throwing("11: behind all", INDEX, () -> all.conflicts(every.length()));
    }

    private static void station() {
        SpectrumReallocator x = Make.stations(4, "0-1c;0-2a;0-3ca;1-0ca");
        x.setAvailable(0x0e);
        x.setParticipates(0, false);
        Check.due("12: before assigning", properties(x, 0), "255 100 10 0 3 -1");
        x.assign(5);
        Check.due("12: assigned", properties(x, 0), "255 100 10 0 3 1");
        Check.due("12: not assigned", properties(x, 1), "255 200 10 1 1 -1");
        Check.due("12: after a conflict of the kind 1", properties(x, 2), "255 300 10 1 1 1");
        for (int station : new int[] {-1, 3, LEAST, MOST}) {
            Check.refused("12: station", INDEX, PromisesTest::bidding, o -> o.station(station, 0));
            Check.refused("12: station first", INDEX, PromisesTest::quiet, o -> o.station(station, 6));
        }
        for (int what : new int[] {-1, 6, LEAST, MOST}) {
            Check.refused("12: what", ARGUMENT, PromisesTest::quiet, o -> o.station(0, what));
        }
    }

    private static void volumeBits() {
        SpectrumReallocator x = new SpectrumReallocator();
        for (int weight = 1; weight <= 99; weight++) {
            x.addStation(1, 1, weight);
            Check.dueNumber("13: weight " + weight, x.volumeBits(0), Float.floatToIntBits(weight / 10.0f));
            x.removeStation();
        }
        StringBuilder star = new StringBuilder();
        x.addStation(1, 1, 99);
        for (int other = 1; other < 12; other++) {
            x.addStation(1, 1, 3);
            star.append(other == 1 ? "" : ";").append("0-").append(other).append(other % 2 == 0 ? "c" : "a");
        }
        Make.conflicts(x, star.toString());
        Check.dueNumber("13: greatest", x.volumeBits(0), Float.floatToIntBits(12f * 99f / 10.0f));
        Check.dueNumber("13: one conflict", x.volumeBits(11), Float.floatToIntBits(2f * 3f / 10.0f));
        Check.dueNumber("13: one tenth", tenth().volumeBits(0), 0x3dcccccd);
        for (int station : new int[] {-1, 3, LEAST, MOST}) {
            Check.refused("13: station", INDEX, PromisesTest::bidding, o -> o.volumeBits(station));
        }
    }

    private static void priceAt() {
        SpectrumReallocator x = Make.stations(3, "0-1c;0-2a;1-2");
        Check.dueNumber("14: degree 2", x.priceAt(0, 1000), 3000);
        Check.dueNumber("14: degree 1", x.priceAt(1, 7), 14);
        Check.dueNumber("14: base 0", x.priceAt(2, 0), 0);
        Check.dueNumber("14: not yet 1", tenth().priceAt(0, 9), 0);
        Check.dueNumber("14: one tenth of 10", tenth().priceAt(0, 10), (int) (0.1f * 10f));
        for (int base = 0; base <= 1000; base += 13) {
            Check.dueNumber("14: floats at " + base, tenth().priceAt(0, base), (int) (0.1f * (float) base));
        }
        for (int weight = 1; weight < 100; weight++) {
            SpectrumReallocator y = new SpectrumReallocator();
            y.addStation(1, 1, weight);
            for (int base = 997; base > 0; base -= 20) {
                int due = (int) ((float) weight / 10.0f * (float) base);
                Check.dueNumber("14: weight " + weight + " at " + base, y.priceAt(0, base), due);
            }
        }
        for (int station : new int[] {-1, 3, LEAST}) {
            Check.refused("14: station", INDEX, PromisesTest::quiet, o -> o.priceAt(station, 5));
            Check.refused("14: station first", INDEX, PromisesTest::quiet, o -> o.priceAt(station, -1));
        }
        for (int base : new int[] {-1, 1001, LEAST, MOST}) {
            Check.refused("14: base", ARGUMENT, PromisesTest::bidding, o -> o.priceAt(0, base));
        }
    }

    // Promises 15 to 20: assignments

    private static void isFeasible() {
        SpectrumReallocator x = Make.stations(4, "0-1c;1-2a;2-3ca");
        Check.due("15: the empty set", x.isFeasible(0), true);
        Check.due("15: all", x.isFeasible(15), true);
        x.setAvailable(1);
        Check.due("15: kind 0 in one channel", x.isFeasible(3), false);
        Check.due("15: kind 1 in one channel", x.isFeasible(6), true);
        x.setAvailable(3);
        Check.due("15: kind 0 in two channels", x.isFeasible(3), true);
        Check.due("15: both kinds in two neighbours", x.isFeasible(12), false);
        Check.due("15: an odd way round", x.isFeasible(7), true);
        x.setAvailable(5);
        Check.due("15: both kinds in channels apart", x.isFeasible(15), true);
        x.setAvailable(0);
        Check.due("15: the empty set without channels", x.isFeasible(0), true);
        Check.due("15: without channels", x.isFeasible(8), false);
        SpectrumReallocator edges = new SpectrumReallocator();
        edges.addStation(1, 1, 1);
        edges.addStation(128, 1, 1);
        Make.conflicts(edges, "0-1ca");
        Check.due("15: the first and the last channel are no neighbours", edges.isFeasible(3), true);
        SpectrumReallocator clique = full();
        Make.conflicts(clique, Make.pairs(12, "c"));
        Check.due("15: eight in conflict", clique.isFeasible(0xff), true);
        Check.due("15: nine in conflict", clique.isFeasible(0x1ff), false);
        Check.due("15: another nine", clique.isFeasible(0xff8), false);
        Make.conflicts(clique, Make.pairs(5, "ca"));
        Check.due("15: four apart", clique.isFeasible(15), true);
        Check.due("15: five apart", clique.isFeasible(31), false);
        SpectrumReallocator none = new SpectrumReallocator();
        none.addStation(0, 1, 1);
        Check.due("15: no channel of its own", none.isFeasible(1), false);
        Check.due("15: in an auction", bidding().isFeasible(7), false);
        wrongSets("15", SpectrumReallocator::isFeasible);
    }

    private static void assign() {
        SpectrumReallocator x = new SpectrumReallocator();
        x.addStation(6, 1, 1);
        x.addStation(2, 1, 1);
        x.addStation(255, 1, 1);
        x.addStation(255, 1, 1);
        Make.conflicts(x, "0-1c;1-2ca;2-3c");
        Check.dueNumber("16: all", x.assign(15), 4);
        Check.due("16: the first assignment", Make.keptOf(x), "2130");
        Check.dueNumber("16: some", x.assign(9), 2);
        Check.due("16: the others without", Make.keptOf(x), "1--0");
        Check.dueNumber("16: two others", x.assign(10), 2);
        Check.dueNumber("16: none", x.assign(0), 0);
        Check.due("16: none kept", Make.keptOf(x), "----");
        x.assign(6);
        Check.due("16: apart by two", Make.keptOf(x), "-13-");
        x.setAvailable(4);
        Check.throwing("16: not feasible", STATE, () -> x.assign(3));
        Check.due("16: stays", Make.keptOf(x), "-13-");
        Check.dueNumber("16: one channel for two", x.assign(4 + 1), 1);
        Check.due("16: same channel", Make.keptOf(x), "2-2-");
        SpectrumReallocator y = bidding();
        Check.dueNumber("16: in an auction", y.assign(2), 1);
        wrongSets("16", SpectrumReallocator::assign);
        Check.refused("16: not feasible", STATE, PromisesTest::bidding, o -> o.assign(7));
    }

    private static void repack() {
        SpectrumReallocator x = Make.stations(3, "0-1c;1-2c");
        x.setAvailable(0x0c);
        Check.dueNumber("17: without any kept", x.repack(7), 3);
        Check.due("17: first one", Make.keptOf(x), "232");
        x.setAvailable(255);
        Check.dueNumber("17: all stay", x.repack(7), 0);
        Check.due("17: as before", Make.keptOf(x), "232");
        x.assign(7);
        Check.due("17: assign does not keep", Make.keptOf(x), "010");
        Check.dueNumber("17: the others do not count", x.repack(2), 0);
        Check.due("17: the others have none", Make.keptOf(x), "-1-");
        Check.dueNumber("17: had none", x.repack(7), 2);
        Check.due("17: the least beside the kept one", Make.keptOf(x), "010");
        x.setAvailable(0xf0);
        Check.dueNumber("17: not available any more", x.repack(7), 3);
        Check.due("17: new ones", Make.keptOf(x), "454");
        Make.conflicts(x, "0-2c;0-1ca");
        Check.dueNumber("17: the earlier ones keep theirs", x.repack(7), 2);
        Check.due("17: kept by the first, moved by the others", Make.keptOf(x), "465");
        SpectrumReallocator y = new SpectrumReallocator();
        y.addStation(3, 1, 1);
        y.addStation(3, 1, 1);
        y.addStation(2, 1, 1);
        y.setAvailable(2);
        y.assign(1);
        Check.due("17: kept in 1", Make.keptOf(y), "1--");
        y.setAvailable(3);
        Make.conflicts(y, "0-2c");
        Check.dueNumber("17: cannot keep it in this set", y.repack(5), 2);
        Check.due("17: moved", Make.keptOf(y), "0-1");
        Check.dueNumber("17: no channels", y.repack(0), 0);
        Check.due("17: none left", Make.keptOf(y), "---");
        Check.dueNumber("17: in an auction", bidding().repack(3), 0);
        wrongSets("17", SpectrumReallocator::repack);
        Check.refused("17: not feasible", STATE, PromisesTest::bidding, o -> o.repack(7));
    }

    private static void assignments() {
        SpectrumReallocator x = new SpectrumReallocator();
        x.addStation(255, 1, 1);
        x.addStation(31, 1, 1);
        x.addStation(0x1f, 1, 1);
        x.addStation(0xf8, 1, 1);
        x.addStation(1, 1, 1);
        x.addStation(0, 1, 1);
        Check.dueNumber("18: the empty set", x.assignments(0), 1);
        Check.dueNumber("18: one", x.assignments(1), 8);
        Check.dueNumber("18: two", x.assignments(3), 40);
        Check.dueNumber("18: three", x.assignments(7), 200);
        Check.dueNumber("18: just 1000", x.assignments(15), 1000);
        Check.dueNumber("18: with one more", x.assignments(31), 1000);
        Check.dueNumber("18: not feasible", x.assignments(63), 0);
        Make.conflicts(x, "0-1c");
        Check.dueNumber("18: kind 0", x.assignments(3), 35);
        Make.conflicts(x, "0-1a");
        Check.dueNumber("18: kind 1", x.assignments(3), 31);
        Make.conflicts(x, "0-1ca");
        Check.dueNumber("18: both", x.assignments(3), 26);
        x.setAvailable(15);
        Check.dueNumber("18: available ones", x.assignments(3), 6);
        SpectrumReallocator clique = Make.stations(5, Make.pairs(5, "c"));
        Check.dueNumber("18: three in conflict", clique.assignments(7), 336);
        Check.dueNumber("18: more than 1000", clique.assignments(15), 1000);
        clique.setAvailable(0x7c);
        Check.dueNumber("18: all in five channels", clique.assignments(31), 120);
        clique.setAvailable(0x3c);
        Check.dueNumber("18: not in four", clique.assignments(31), 0);
        Check.dueNumber("18: twelve", full().assignments(4095), 1000);
        wrongSets("18", SpectrumReallocator::assignments);
    }

    private static void channelsNeeded() {
        SpectrumReallocator x = Make.stations(5, "0-1c;1-2c;2-0c;3-4ca");
        Check.dueNumber("19: the empty set", x.channelsNeeded(0), 0);
        Check.dueNumber("19: one", x.channelsNeeded(8), 1);
        Check.dueNumber("19: two", x.channelsNeeded(24), 2);
        Check.dueNumber("19: three", x.channelsNeeded(7), 3);
        Check.dueNumber("19: all", x.channelsNeeded(31), 3);
        x.setAvailable(7);
        Check.dueNumber("19: all in three", x.channelsNeeded(31), 3);
        x.setAvailable(6);
        Check.throwing("19: not in two", STATE, () -> x.channelsNeeded(7));
        Check.throwing("19: not next to each other", STATE, () -> x.channelsNeeded(24));
        SpectrumReallocator clique = Make.stations(9, Make.pairs(9, "c"));
        Check.dueNumber("19: all eight", clique.channelsNeeded(0xff), 8);
        Check.throwing("19: nine", STATE, () -> clique.channelsNeeded(0x1ff));
        SpectrumReallocator y = new SpectrumReallocator();
        y.addStation(3, 1, 1);
        y.addStation(6, 1, 1);
        y.addStation(12, 1, 1);
        y.addStation(0x81, 1, 1);
        Check.dueNumber("19: not the first assignment", y.channelsNeeded(7), 2);
        Check.dueNumber("19: with one more", y.channelsNeeded(15), 2);
        Check.dueNumber("19: in an auction", bidding().channelsNeeded(3), 2);
        wrongSets("19", SpectrumReallocator::channelsNeeded);
        Check.refused("19: not feasible", STATE, PromisesTest::bidding, o -> o.channelsNeeded(7));
    }

    private static void core() {
        SpectrumReallocator x = Make.stations(6, "0-5c;1-5c;0-1c;2-5ca;3-4c");
        x.setAvailable(3);
        Check.dueNumber("20: the smallest", x.core(5, 31), 4);
        Check.dueNumber("20: with the station itself", x.core(5, 63), 4);
        Check.dueNumber("20: two needed", x.core(5, 27), 3);
        Check.throwing("20: no reason", ELEMENT, () -> x.core(5, 25));
        Check.throwing("20: no reason for the empty set", ELEMENT, () -> x.core(5, 0));
        Check.throwing("20: no reason for itself", ELEMENT, () -> x.core(5, 32));
        x.setAvailable(1);
        Check.dueNumber("20: the least of several", x.core(5, 31), 1);
        Check.dueNumber("20: the least of those in the set", x.core(5, 30), 2);
        Check.dueNumber("20: of a middle one", x.core(1, 63), 1);
        Check.dueNumber("20: not feasible without it", x.core(2, 24), 24);
        x.setAvailable(0);
        Check.dueNumber("20: none at all", x.core(3, 63), 0);
        SpectrumReallocator y = Make.stations(5, "0-4c;1-4c;0-1c;2-4c;3-4c;2-3c");
        y.setAvailable(6);
        Check.dueNumber("20: the least as an int", y.core(4, 15), 3);
        Check.dueNumber("20: the other one", y.core(4, 14), 12);
        Check.dueNumber("20: in an auction", bidding().core(2, 3), 2);
        for (int station : new int[] {-1, 3, LEAST}) {
            Check.refused("20: station", INDEX, PromisesTest::bidding, o -> o.core(station, 7));
            Check.refused("20: station first", INDEX, PromisesTest::quiet, o -> o.core(station, 8));
        }
        wrongSets("20", (o, set) -> o.core(0, set));
        Check.refused("20: feasible", ELEMENT, PromisesTest::quiet, o -> o.core(0, 6));
    }

    // Promises 21 to 32: auctions

    private static void open() {
        SpectrumReallocator x = Make.stations(4, "0-1c;0-2c;2-3c");
        x.setAvailable(1);
        x.setParticipates(0, false);
        x.setValue(3, 1000);
        Check.dueNumber("21: none bids", x.open(100), 0);
        Check.due("21: what became of them", auctionOf(x), "0 100 9 0 6");
        Check.due("21: events", eventsOf(x), "21 11 30 ");
        Check.dueNumber("21: price on the air", x.price(3), 200);
        Check.dueNumber("21: price of a frozen one", x.price(2), 300);
        SpectrumReallocator y = Make.stations(3, "");
        Check.dueNumber("21: all bid", y.open(1000), 3);
        Check.due("21: they bid", auctionOf(y), "0 1000 0 7 0");
        y.cancel();
        Check.dueNumber("21: at the lowest base", y.open(1), 0);
        Check.due("21: all on the air", auctionOf(y), "0 1 7 0 0");
        y.cancel();
        Check.dueNumber("21: a price that equals the value does not go on the air", y.open(100), 1);
        Check.due("21: the one with the value 100", auctionOf(y), "0 100 6 1 0");
        Check.dueNumber("21: no stations", new SpectrumReallocator().open(500), 0);
        for (int base : new int[] {0, -1, 1001, LEAST, MOST}) {
            Check.refused("21: base", ARGUMENT, PromisesTest::quiet, o -> o.open(base));
            Check.refused("21: base in an auction", ARGUMENT, PromisesTest::over, o -> o.open(base));
            Check.refused("21: base and stayers", ARGUMENT, PromisesTest::stuck, o -> o.open(base));
        }
        Check.refused("21: in an auction", UNSUPPORTED, PromisesTest::bidding, o -> o.open(5));
        Check.refused("21: after an auction", UNSUPPORTED, PromisesTest::over, o -> o.open(5));
        Check.refused("21: stayers not feasible", STATE, PromisesTest::stuck, o -> o.open(5));
    }

    private static void round() {
        SpectrumReallocator x = rivals();
        Check.due("22: round 0", auctionOf(x), "0 30 0 3 0");
        Check.dueNumber("22: one on the air", x.round(15), 1);
        Check.due("22: round 1", auctionOf(x), "1 15 1 2 0");
        Check.dueNumber("22: its price stays", x.price(0), 60);
        Check.dueNumber("22: the new price", x.price(1), 297);
        Check.dueNumber("22: the other one frozen", x.round(10), 0);
        Check.due("22: round 2", auctionOf(x), "2 5 1 0 2");
        Check.dueNumber("22: its price stays too", x.price(1), 297);
        Check.throwing("22: over", STATE, () -> x.round(10));
        SpectrumReallocator y = Make.stations(3, "");
        y.setValue(0, 0);
        y.setValue(2, 0);
        y.open(1000);
        Check.dueNumber("22: falls to 0 at most", y.round(1000), 0);
        Check.due("22: base 0", auctionOf(y), "1 0 2 0 5");
        Check.due("22: frozen at 0", eventsOf(y), "1010 1002 1022 ");
        Check.dueNumber("22: the price 0", y.price(0), 0);
        Check.dueNumber("22: the price before", y.price(1), 1000);
        SpectrumReallocator z = Make.stations(2, "");
        z.open(990);
        Check.dueNumber("22: the least decrement", z.round(10), 2);
        Check.dueNumber("22: base", z.auction(1), 980);
        for (int decrement : new int[] {9, 0, -1, 1001, LEAST, MOST}) {
            Check.refused("22: decrement", ARGUMENT, PromisesTest::bidding, o -> o.round(decrement));
            Check.refused("22: decrement without an auction", ARGUMENT, PromisesTest::quiet, o -> o.round(decrement));
            Check.refused("22: decrement when over", ARGUMENT, PromisesTest::over, o -> o.round(decrement));
        }
        Check.refused("22: without an auction", STATE, PromisesTest::quiet, o -> o.round(10));
        Check.refused("22: over", STATE, PromisesTest::over, o -> o.round(10));
    }

    private static void run() {
        SpectrumReallocator x = Make.stations(2, "");
        x.setValue(0, 0);
        x.open(1000);
        Check.dueNumber("23: the most rounds", x.run(10), 100);
        Check.due("23: over", auctionOf(x), "100 0 2 0 1");
        Check.due("23: events", eventsOf(x), "81010 100002 ");
        Check.dueNumber("23: over already", x.run(10), 0);
        Check.dueNumber("23: back", x.back(50), 2);
        Check.dueNumber("23: fewer rounds", x.run(1000), 1);
        Check.dueNumber("23: the base price 0", x.auction(1), 0);
        Check.dueNumber("23: two rounds", rivalsRun(13), 2);
        for (int decrement : new int[] {9, -10, 1001, LEAST, MOST}) {
            Check.refused("23: decrement", ARGUMENT, PromisesTest::bidding, o -> o.run(decrement));
            Check.refused("23: decrement without an auction", ARGUMENT, PromisesTest::quiet, o -> o.run(decrement));
        }
        Check.refused("23: without an auction", STATE, PromisesTest::quiet, o -> o.run(10));
    }

    private static void back() {
        SpectrumReallocator x = rivals();
        x.round(15);
        String afterRound1 = auctionOf(x) + eventsOf(x) + x.price(0) + " " + x.price(1);
        x.round(10);
        Check.dueNumber("24: the present one", x.back(2), 0);
        Check.due("24: nothing changed", auctionOf(x), "2 5 1 0 2");
        Check.dueNumber("24: round 1", x.back(1), 1);
        Check.due("24: as it was", auctionOf(x) + eventsOf(x) + x.price(0) + " " + x.price(1), afterRound1);
        Check.throwing("24: not frozen any more", ELEMENT, () -> x.frozenBy(1));
        Check.throwing("24: forgotten", INDEX, () -> x.back(2));
        Check.dueNumber("24: round 0", x.back(0), 2);
        Check.due("24: all bid", auctionOf(x), "0 30 0 3 0");
        Check.dueNumber("24: price in round 0", x.price(1), 594);
        Check.dueNumber("24: one round left", x.count(7), 1);
        Check.dueNumber("24: another way", x.round(29), 0);
        Check.due("24: the other one on the air", auctionOf(x), "1 1 2 0 1");
        Check.due("24: other events", eventsOf(x), "1010 1001 ");
        Check.dueNumber("24: frozen with the price of round 0", x.price(0), 60);
        SpectrumReallocator y = Make.stations(1, "");
        y.setValue(0, 0);
        y.open(100);
        y.run(10);
        Check.dueNumber("24: from the base 0", y.back(9), 1);
        Check.dueNumber("24: its price", y.price(0), 10);
        Check.dueNumber("24: its state", y.state(0), 1);
        Check.refused("24: without an auction", STATE, PromisesTest::quiet, o -> o.back(0));
        Check.refused("24: without an auction, no round", STATE, PromisesTest::quiet, o -> o.back(-1));
        for (int round : new int[] {-1, 2, LEAST, MOST, 1000}) {
            Check.refused("24: round", INDEX, PromisesTest::bidding, o -> o.back(round));
        }
    }

    private static void close() {
        SpectrumReallocator x = Make.stations(4, "0-1c;1-2c;2-3c");
        x.setAvailable(0x30);
        x.setParticipates(0, false);
        x.setParticipates(1, false);
        x.setValue(3, 0);
        x.open(50);
        Check.throwing("25: not over", STATE, x::close);
        x.run(10);
        Check.dueNumber("25: on the air", x.close(), 3);
        Check.due("25: the first assignment", Make.keptOf(x), "454-");
        Check.dueNumber("25: not known any more", x.count(7), 0);
        Check.throwing("25: closed", STATE, () -> x.auction(0));
        Check.dueNumber("25: can be changed again", x.setValue(3, 1), 0);
        SpectrumReallocator none = new SpectrumReallocator();
        none.open(1);
        Check.dueNumber("25: no stations", none.close(), 0);
        Check.refused("25: without an auction", STATE, PromisesTest::quiet, SpectrumReallocator::close);
        Check.refused("25: not over", STATE, PromisesTest::bidding, SpectrumReallocator::close);
    }

    private static void cancel() {
        SpectrumReallocator x = bidding();
        String kept = Make.keptOf(x);
        Check.dueNumber("26: the present round", x.cancel(), 1);
        Check.due("26: the kept assignment stays", Make.keptOf(x), kept);
        Check.dueNumber("26: not known any more", x.count(7), 0);
        Check.throwing("26: cancelled", STATE, x::cancel);
        Check.dueNumber("26: opened again", x.open(200), 2);
        Check.dueNumber("26: with round 0", x.auction(0), 0);
        Check.dueNumber("26: when over", over().cancel(), 3);
        Check.refused("26: without an auction", STATE, PromisesTest::quiet, SpectrumReallocator::cancel);
    }

    private static void state() {
        SpectrumReallocator x = Make.stations(5, "1-2c;0-3c");
        x.setAvailable(1);
        x.setParticipates(0, false);
        x.setValue(2, 500);
        x.open(201);
        Check.dueNumber("27: does not take part", x.state(0), 0);
        Check.dueNumber("27: bids", x.state(1), 1);
        Check.dueNumber("27: on the air", x.state(2), 0);
        Check.dueNumber("27: frozen", x.state(3), 2);
        Check.dueNumber("27: on the air without conflicts", x.state(4), 0);
        x.round(10);
        Check.dueNumber("27: frozen a round later", x.state(1), 2);
        for (int station : new int[] {-1, 3, LEAST, MOST}) {
            Check.refused("27: station", INDEX, PromisesTest::bidding, o -> o.state(station));
            Check.refused("27: station without an auction", INDEX, PromisesTest::quiet, o -> o.state(station));
        }
        Check.refused("27: without an auction", STATE, PromisesTest::quiet, o -> o.state(0));
    }

    private static void price() {
        SpectrumReallocator x = rivals();
        Check.dueNumber("28: volume 2.0", x.price(0), 60);
        Check.dueNumber("28: volume 19.8", x.price(1), (int) (19.8f * 30f));
        x.round(10);
        Check.dueNumber("28: falls", x.price(0), 40);
        x.round(10);
        Check.dueNumber("28: stays on the air", x.price(0), 40);
        Check.dueNumber("28: falls on", x.price(1), (int) (19.8f * 10f));
        x.round(10);
        Check.dueNumber("28: stays when frozen", x.price(1), (int) (19.8f * 10f));
        for (int station : new int[] {-1, 3, LEAST, MOST}) {
            Check.refused("28: station", INDEX, PromisesTest::bidding, o -> o.price(station));
            Check.refused("28: station without an auction", INDEX, PromisesTest::quiet, o -> o.price(station));
        }
        Check.refused("28: without an auction", STATE, () -> without(quiet(), 0), o -> o.price(0));
        Check.refused("28: does not take part", ELEMENT, PromisesTest::bidding, o -> o.price(0));
    }

    private static void frozenBy() {
        SpectrumReallocator x = Make.stations(5, "0-4c;1-4ca;2-4c;3-4;0-1c");
        x.setAvailable(3);
        x.setParticipates(0, false);
        x.setParticipates(1, false);
        x.setParticipates(3, false);
        x.open(1000);
        Check.dueNumber("29: the smallest reason", x.frozenBy(4), 2);
        Check.throwing("29: bids", ELEMENT, () -> x.frozenBy(2));
        Check.throwing("29: on the air", ELEMENT, () -> x.frozenBy(0));
        SpectrumReallocator y = Make.stations(4, "0-1c;0-3c;1-3c;2-3ca");
        y.setAvailable(3);
        y.setParticipates(0, false);
        y.setParticipates(1, false);
        y.open(100);
        Check.dueNumber("29: another is on the air by now", y.auction(2), 7);
        Check.dueNumber("29: a smaller reason by now", y.core(3, 7), 4);
        Check.dueNumber("29: the reason at that time", y.frozenBy(3), 3);
        SpectrumReallocator z = rivals();
        z.run(10);
        Check.dueNumber("29: the other one", z.frozenBy(1), 1);
        z.back(0);
        Check.throwing("29: bids again", ELEMENT, () -> z.frozenBy(1));
        z.round(29);
        Check.dueNumber("29: the other way round", z.frozenBy(0), 2);
        SpectrumReallocator zero = Make.stations(1, "");
        zero.addStation(0, 0, 1);
        zero.setValue(0, 0);
        zero.open(1);
        Check.dueNumber("29: no channel of its own", zero.frozenBy(1), 0);
        zero.run(10);
        Check.dueNumber("29: frozen", zero.state(0), 2);
        Check.throwing("29: frozen at the base price 0", ELEMENT, () -> zero.frozenBy(0));
        Check.dueNumber("29: before that", zero.frozenBy(1), 0);
        for (int station : new int[] {-1, 3, LEAST, MOST}) {
            Check.refused("29: station", INDEX, PromisesTest::over, o -> o.frozenBy(station));
            Check.refused("29: station without an auction", INDEX, PromisesTest::quiet, o -> o.frozenBy(station));
        }
        Check.refused("29: without an auction", STATE, PromisesTest::quiet, o -> o.frozenBy(0));
        Check.refused("29: on the air", ELEMENT, PromisesTest::over, o -> o.frozenBy(1));
        Check.refused("29: does not take part", ELEMENT, PromisesTest::over, o -> o.frozenBy(0));
        Check.refused("29: bids", ELEMENT, PromisesTest::bidding, o -> o.frozenBy(2));
    }

    private static void auction() {
        SpectrumReallocator x = crowd(101);
        int[] due = {0, 101, 9, 0, 22, 202 + 303 + 202, 11 + 7 + 5};
        for (int what = 0; what < due.length; what++) {
            Check.dueNumber("30: " + what, x.auction(what), due[what]);
        }
        SpectrumReallocator y = rivals();
        int[] first = {0, 30, 0, 3, 0, 0, 0};
        for (int what = 0; what < first.length; what++) {
            Check.dueNumber("30: round 0, " + what, y.auction(what), first[what]);
        }
        y.round(15);
        Check.dueNumber("30: prices on the air do not count", y.auction(5), 0);
        y.round(10);
        int[] last = {2, 5, 1, 0, 2, 297, 100};
        for (int what = 0; what < last.length; what++) {
            Check.dueNumber("30: round 2, " + what, y.auction(what), last[what]);
        }
        for (int what : new int[] {-1, 7, LEAST, MOST}) {
            Check.refused("30: what", ARGUMENT, PromisesTest::bidding, o -> o.auction(what));
            Check.refused("30: what without an auction", ARGUMENT, PromisesTest::quiet, o -> o.auction(what));
        }
        Check.refused("30: without an auction", STATE, PromisesTest::quiet, o -> o.auction(6));
    }

    private static void event() {
        SpectrumReallocator x = crowd(100);
        Check.due("31: in the order of the volumes", eventsOf(x), "21 11 30 41 ");
        SpectrumReallocator y = Make.stations(12, "0-11c;1-11c;2-11");
        y.setValue(11, 20);
        y.setValue(10, 0);
        y.setValue(0, 0);
        y.setValue(1, 0);
        y.open(1000);
        y.run(1000);
        Check.dueNumber("31: first the greatest volume", y.event(0), 1110);
        Check.dueNumber("31: then the others", y.event(1), 1020);
        Check.dueNumber("31: the last on the air", y.event(8), 1090);
        Check.dueNumber("31: at the end of the round", y.event(9), 1002);
        Check.dueNumber("31: in ascending order", y.event(10), 1012);
        Check.dueNumber("31: the last", y.event(11), 1102);
        Check.throwing("31: not more", ELEMENT, () -> y.event(12));
        SpectrumReallocator z = rivals();
        Check.throwing("31: none yet", ELEMENT, () -> z.event(0));
        z.run(10);
        Check.due("31: in later rounds", eventsOf(z), "2000 3011 ");
        z.back(2);
        Check.due("31: back", eventsOf(z), "2000 ");
        Check.dueNumber("31: to round 100", lateEvent(), 100002);
        for (int index : new int[] {-1, 2, LEAST, MOST}) {
            Check.refused("31: index", ELEMENT, PromisesTest::over, o -> o.event(index));
            Check.refused("31: index without an auction", STATE, PromisesTest::quiet, o -> o.event(index));
        }
        Check.refused("31: without an auction", STATE, PromisesTest::quiet, o -> o.event(0));
    }

    private static void order() {
        SpectrumReallocator x = Make.stations(5, "0-1c;1-2c;3-4a");
        int[] all = {1, 0, 2, 3, 4};
        for (int rank = 0; rank < all.length; rank++) {
            Check.dueNumber("32: rank " + rank, x.order(rank), all[rank]);
        }
        Check.throwing("32: no more", ELEMENT, () -> x.order(5));
        x.setParticipates(0, false);
        x.addStation(1, 1, 25);
        x.open(300);
        int[] taking = {1, 5, 2, 3, 4};
        for (int rank = 0; rank < taking.length; rank++) {
            Check.dueNumber("32: in an auction, rank " + rank, x.order(rank), taking[rank]);
        }
        x.run(100);
        Check.dueNumber("32: also those that do not bid any more", x.order(4), 4);
        for (int rank : new int[] {-1, 2, LEAST, MOST}) {
            Check.refused("32: rank", ELEMENT, PromisesTest::bidding, o -> o.order(rank));
        }
        Check.refused("32: no stations", ELEMENT, SpectrumReallocator::new, o -> o.order(0));
    }

    // Promises 33 to 36: the best result

    private static void best() {
        SpectrumReallocator x = Make.stations(4, "0-1c;1-2c;2-3c");
        Check.dueNumber("33: all", x.best(), 15);
        x.setAvailable(1);
        Check.dueNumber("33: the greatest sum", x.best(), 10);
        x.setValue(0, 500);
        Check.dueNumber("33: another", x.best(), 9);
        x.setParticipates(1, false);
        Check.dueNumber("33: with one that does not take part", x.best(), 10);
        x.setValue(1, 0);
        Check.dueNumber("33: even without a value", x.best(), 10);
        x.setParticipates(1, true);
        x.setValue(0, 100);
        x.setValue(2, 300);
        x.setValue(3, 200);
        x.setValue(1, 200);
        Check.dueNumber("33: the least of two equal ones", x.best(), 5);
        SpectrumReallocator y = Make.stations(3, "0-2c");
        y.setValue(1, 0);
        Check.dueNumber("33: without one that adds nothing", y.best(), 5);
        y.setAvailable(4);
        y.setValue(2, 100);
        Check.dueNumber("33: the least as an int", y.best(), 1);
        y.setValue(0, 0);
        y.setValue(2, 0);
        Check.dueNumber("33: all without a value", y.best(), 0);
        y.setParticipates(1, false);
        Check.dueNumber("33: but that one", y.best(), 2);
        SpectrumReallocator clique = full();
        Make.conflicts(clique, Make.pairs(12, "c"));
        Check.dueNumber("33: eight of twelve", clique.best(), 0xff0);
        for (int station = 0; station < 12; station++) {
            clique.setValue(station, 50);
        }
        Check.dueNumber("33: the least eight", clique.best(), 0xff);
        Check.dueNumber("33: in an auction", bidding().best(), 3);
        Check.refused("33: stayers not feasible", STATE, PromisesTest::stuck, SpectrumReallocator::best);
    }

    private static void leastLoss() {
        SpectrumReallocator x = Make.stations(4, "0-1c;1-2c;2-3c");
        Check.dueNumber("34: none", x.leastLoss(), 0);
        x.setAvailable(1);
        Check.dueNumber("34: two lost", x.leastLoss(), 400);
        x.setParticipates(0, false);
        x.setParticipates(2, false);
        Check.dueNumber("34: those that take part", x.leastLoss(), 600);
        x.setAvailable(0);
        Check.refused("34: stayers not feasible", STATE, PromisesTest::stuck, SpectrumReallocator::leastLoss);
        Check.dueNumber("34: no stations", new SpectrumReallocator().leastLoss(), 0);
        SpectrumReallocator all = new SpectrumReallocator();
        for (int station = 0; station < 12; station++) {
            all.addStation(0, 9999, 1);
        }
        Check.dueNumber("34: the greatest", all.leastLoss(), 12 * 9999);
    }

    private static void efficiencyBits() {
        SpectrumReallocator x = rivals();
        x.round(15);
        Check.throwing("35: not over", STATE, x::efficiencyBits);
        x.round(10);
        Check.dueNumber("35: less than 1", x.efficiencyBits(), Float.floatToIntBits(31f / 100f));
        x.back(0);
        x.round(29);
        Check.dueNumber("35: the best", x.efficiencyBits(), Float.floatToIntBits(1.0f));
        Check.dueNumber("35: none frozen", opened(Make.stations(2, ""), 1).efficiencyBits(), 0x3f800000);
        SpectrumReallocator y = Make.stations(1, "");
        y.setValue(0, 0);
        y.open(1);
        y.run(10);
        Check.dueNumber("35: frozen without a value", y.efficiencyBits(), 0x3f800000);
        for (int value : new int[] {1, 3, 7, 30}) {
            SpectrumReallocator z = rivals();
            z.cancel();
            z.setValue(0, value);
            z.setValue(1, 9999);
            z.setParticipates(1, false);
            z.open(1000);
            Check.dueNumber("35: frozen by one that stays", z.efficiencyBits(), 0x3f800000);
            z.cancel();
            z.setParticipates(1, true);
            z.addStation(2, 1, 1);
            Make.conflicts(z, "0-1");
            z.open(1000);
            z.run(10);
            Check.dueNumber("35: nothing lost", z.efficiencyBits(), 0x3f800000);
        }
        Check.dueNumber("35: small", efficiencyOf(1, 79, 4), Float.floatToIntBits(1f / 79f));
        Check.dueNumber("35: two thirds", efficiencyOf(6666, 9999, 1000), Float.floatToIntBits(6666f / 9999f));
        Check.refused("35: without an auction", STATE, PromisesTest::quiet, SpectrumReallocator::efficiencyBits);
        Check.refused("35: not over", STATE, PromisesTest::bidding, SpectrumReallocator::efficiencyBits);
    }

    private static void meanPriceBits() {
        Check.dueNumber("36: of three", crowd(100).meanPriceBits(), Double.doubleToLongBits(700.0 / 3.0));
        for (int base = 1; base <= 1000; base += 37) {
            SpectrumReallocator x = crowd(base);
            Check.dueNumber("36: base " + base, x.meanPriceBits(), Double.doubleToLongBits(7.0 * base / 3.0));
        }
        SpectrumReallocator y = rivals();
        y.run(10);
        Check.dueNumber("36: of one", y.meanPriceBits(), Double.doubleToLongBits(198.0));
        SpectrumReallocator z = Make.stations(1, "");
        z.setValue(0, 0);
        z.open(1);
        Check.throwing("36: none frozen", ArithmeticException.class, z::meanPriceBits);
        z.run(10);
        Check.dueNumber("36: at the price 0", z.meanPriceBits(), 0L);
        Check.refused("36: without an auction", STATE, PromisesTest::quiet, SpectrumReallocator::meanPriceBits);
        Check.refused("36: none frozen", ArithmeticException.class, PromisesTest::bidding,
                SpectrumReallocator::meanPriceBits);
    }

    // Promises 37 to 39: counts and snapshots

    private static void count() {
        SpectrumReallocator x = Make.stations(5, "0-1c;1-2ca;2-3a;3-4ca;0-4a");
        x.setAvailable(0xd5);
        x.setParticipates(3, false);
        x.assign(14);
        Make.text(x, "0-1;2");
        int[] due = {5, 3, 4, 5, 4, 3, 5, 0};
        for (int what = 0; what < due.length; what++) {
            Check.dueNumber("37: " + what, x.count(what), due[what]);
        }
        x.open(1000);
        Check.dueNumber("37: round 0", x.count(7), 1);
        x.round(10);
        x.round(10);
        Check.dueNumber("37: three rounds", x.count(7), 3);
        x.back(1);
        Check.dueNumber("37: two rounds", x.count(7), 2);
        x.run(1000);
        Check.dueNumber("37: when over", x.count(7), 3);
        x.close();
        Check.dueNumber("37: when closed", x.count(7), 0);
        Check.dueNumber("37: the buffer stays", x.count(6), 5);
        for (int what : new int[] {-1, 8, LEAST, MOST}) {
            Check.refused("37: what", ARGUMENT, PromisesTest::bidding, o -> o.count(what));
        }
    }

    private static void save() {
        SpectrumReallocator x = Make.stations(3, "0-1c");
        Check.dueNumber("38: stations", x.save(), 3);
        x.addStation(1, 2, 3);
        Check.dueNumber("38: one more", x.save(), 4);
        x.removeStation();
        x.removeStation();
        Check.dueNumber("38: replaced what was saved before", x.restore(), 4);
        Check.due("38: the last station", properties(x, 3), "1 2 3 1 0 -1");
        Check.dueNumber("38: no stations", new SpectrumReallocator().save(), 0);
        SpectrumReallocator y = bidding();
        String before = auctionOf(y);
        Check.dueNumber("38: in an auction", y.save(), 3);
        Check.due("38: changes nothing", auctionOf(y), before);
        y.run(10);
        Check.dueNumber("38: saved once, then run", y.count(7), 20);
        y.restore();
        Check.due("38: the auction was saved", auctionOf(y), before);
    }

    private static void restore() {
        SpectrumReallocator x = Make.stations(4, "0-1c;2-3a");
        x.setAvailable(0x3f);
        x.setParticipates(2, false);
        x.setValue(1, 1234);
        x.assign(5);
        String[] then = {properties(x, 0), properties(x, 1), properties(x, 2), properties(x, 3)};
        x.save();
        x.setAvailable(1);
        Check.due("39: not feasible in between", x.isFeasible(3), false);
        x.setParticipates(2, true);
        x.setParticipates(3, false);
        x.setValue(1, 1);
        x.assign(2);
        read(x, "0-1;0-2c");
        x.removeStation();
        Make.text(x, "0-0");
        x.open(70);
        for (int time = 0; time < 2; time++) {
            Check.dueNumber("39: stations", x.restore(), 4);
            for (int station = 0; station < 4; station++) {
                Check.due("39: station " + station, properties(x, station), then[station]);
            }
            Check.due("39: conflicts", Make.conflictsOf(x), "0-1c;2-3a");
            Check.dueNumber("39: no auction", x.count(7), 0);
            Check.due("39: feasible again", x.isFeasible(3), true);
            Check.dueNumber("39: the buffer stays", x.count(6), 3);
            Check.dueNumber("39: available ones", x.setAvailable(9), 0x3f);
            x.setValue(0, 1);
            x.assign(0);
        }
        Check.throwing("39: the text in the buffer", ARGUMENT, x::setConflicts);
        Check.dueNumber("39: its error", x.errorPosition(), 2);
        x.restore();
        Check.dueNumber("39: the error position stays", x.errorPosition(), 2);
        SpectrumReallocator y = rivals();
        y.round(15);
        y.save();
        y.round(10);
        String later = auctionOf(y) + eventsOf(y) + y.price(1);
        y.close();
        y.removeStation();
        Check.dueNumber("39: into the auction", y.restore(), 2);
        Check.due("39: as it was", auctionOf(y) + eventsOf(y), "1 15 1 2 01000 ");
        Check.dueNumber("39: its prices", y.price(1), 297);
        Check.dueNumber("39: goes on", y.round(10), 0);
        Check.due("39: as before", auctionOf(y) + eventsOf(y) + y.price(1), later);
        y.restore();
        Check.dueNumber("39: its rounds", y.back(0), 2);
        Check.due("39: round 0", auctionOf(y), "0 30 0 3 0");
        SpectrumReallocator z = rivals();
        z.run(10);
        z.save();
        z.cancel();
        z.setValue(1, 0);
        read(z, "0-1");
        z.open(1);
        z.run(10);
        Check.throwing("39: frozen at the base price 0", ELEMENT, () -> z.frozenBy(1));
        z.restore();
        Check.dueNumber("39: the reason why one was frozen", z.frozenBy(1), 1);
        Check.refused("39: nothing saved", STATE, PromisesTest::rivals, SpectrumReallocator::restore);
        Check.refused("39: nothing saved, no stations", STATE, SpectrumReallocator::new, SpectrumReallocator::restore);
    }

    // What the tests above share

    /** Four that are frozen or on the air in round 0: three of them cannot have the channel of station 0. */
    private static SpectrumReallocator crowd(int base) {
        SpectrumReallocator made = Make.stations(5, "0-1c;0-2c;2-3c;0-4c");
        made.setAvailable(1);
        made.setParticipates(0, false);
        made.setValue(1, 11);
        made.setValue(2, 7);
        made.setValue(3, 9999);
        made.setValue(4, 5);
        made.open(base);
        return made;
    }

    private static SpectrumReallocator stuck() {
        return Given.STUCK.made();
    }

    private static SpectrumReallocator opened(SpectrumReallocator object, int base) {
        object.open(base);
        return object;
    }

    private static SpectrumReallocator without(SpectrumReallocator object, int station) {
        object.setParticipates(station, false);
        return object;
    }

    private static SpectrumReallocator filled(int length) {
        SpectrumReallocator made = Make.stations(2, "");
        Make.text(made, "0-1c;1-0a;0-1ca;1-0;0-1c;1-0a;0-1ca;1-0;!".substring(0, length));
        return made;
    }

    private static SpectrumReallocator tenth() {
        SpectrumReallocator made = new SpectrumReallocator();
        made.addStation(255, 1, 1);
        return made;
    }

    private static int rivalsRun(int decrement) {
        return rivals().run(decrement);
    }

    private static int lateEvent() {
        SpectrumReallocator made = Make.stations(1, "");
        made.setValue(0, 0);
        made.open(1000);
        made.run(10);
        return made.event(0);
    }

    /** Station 0 has the volume 0.2 and goes on the air in round 0, station 1 has 19.8 and is frozen in round 1. */
    private static int efficiencyOf(int value, int frozenValue, int base) {
        SpectrumReallocator made = new SpectrumReallocator();
        made.addStation(1, value, 1);
        made.addStation(1, frozenValue, 99);
        Make.conflicts(made, "0-1c");
        made.open(base);
        made.round(10);
        return made.efficiencyBits();
    }

    private static int read(SpectrumReallocator object, String text) {
        Make.text(object, text);
        return object.setConflicts();
    }

    /** With twelve stations. */
    private static void errorAt(String text, int position) {
        SpectrumReallocator object = full();
        Make.text(object, text);
        Check.due("9: " + text, Check.thrownBy(object::setConflicts),
                position == -1 ? "nothing" : "IllegalArgumentException");
        Check.dueNumber("9: error position of " + text, object.errorPosition(), position);
    }

    private interface SetCall {
        void on(SpectrumReallocator object, int stations);
    }

    private static void wrongSets(String promise, SetCall call) {
        for (int set : new int[] {8, 15, -1, LEAST, 4096, MOST}) {
            Check.refused(promise + ": set", ARGUMENT, PromisesTest::quiet, o -> call.on(o, set));
            Check.refused(promise + ": set in an auction", ARGUMENT, PromisesTest::over, o -> call.on(o, set));
        }
        Check.throwing(promise + ": set without stations", ARGUMENT, () -> call.on(tenth(), 2));
        Check.throwing(promise + ": set behind twelve", ARGUMENT, () -> call.on(full(), 4096));
    }

    private static String properties(SpectrumReallocator object, int station) {
        StringBuilder text = new StringBuilder();
        for (int what = 0; what <= 5; what++) {
            text.append(what == 0 ? "" : " ").append(object.station(station, what));
        }
        return text.toString();
    }

    /** The round, the base price, and the sets on the air, bidding and frozen. */
    private static String auctionOf(SpectrumReallocator object) {
        StringBuilder text = new StringBuilder();
        for (int what = 0; what <= 4; what++) {
            text.append(what == 0 ? "" : " ").append(object.auction(what));
        }
        return text.toString();
    }

    private static String eventsOf(SpectrumReallocator object) {
        StringBuilder text = new StringBuilder();
        for (int index = 0; index < 12; index++) {
            int at = index;
            if (!Check.thrownBy(() -> object.event(at)).equals("nothing")) {
                break;
            }
            text.append(object.event(index)).append(' ');
        }
        return text.toString();
    }
}
