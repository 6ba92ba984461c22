/**
 * Each sentence on stations, conflicts, prices and texts, and of the promises 1 to 14, that names an edge: the last
 * value that is allowed and the first that is not, on both sides where there are two, and what a refused call leaves.
 */
final class StationEdgesTest {
    private static final Class<IllegalArgumentException> ARGUMENT = IllegalArgumentException.class;
    private static final Class<IllegalStateException> STATE = IllegalStateException.class;
    private static final Class<IndexOutOfBoundsException> INDEX = IndexOutOfBoundsException.class;
    private static final Class<UnsupportedOperationException> UNSUPPORTED = UnsupportedOperationException.class;
    private static final int LEAST = Integer.MIN_VALUE;
    private static final int MOST = Integer.MAX_VALUE;
    // All scenes in which an auction is known and there are three stations.
    private static final Scene[] IN_AUCTION = {Given.BIDDING, Given.OVER, Given.RESTORED};

    private StationEdgesTest() {
    }

    public static void main(String[] args) {
        newObject();
        stationsAtMost();
        channelsOfAStation();
        valueAndWeight();
        addStationRefused();
        removeStation();
        removedConflicts();
        setParticipates();
        setValue();
        setAvailable();
        interference();
        keptAssignmentStays();
        knownAuction();
        charactersOfTheBuffer();
        lengthOfTheBuffer();
        setConflicts();
        stationsInTexts();
        wrongCharacters();
        textsThatEndTooEarly();
        firstErrorCounts();
        errorPositionStays();
        hasConflict();
        conflicts();
        station();
        volumeBits();
        priceAt();
        Check.end("StationEdgesTest");
    }

    private static void newObject() {
        SpectrumReallocator x = Given.NEW.made();
        Check.dueNumber("1: without stations", x.count(0), 0);
        Check.dueNumber("1: no conflicts of the kind 0", x.count(1), 0);
        Check.dueNumber("1: no conflicts of the kind 1", x.count(2), 0);
        Check.dueNumber("1: all channels available", x.count(3), 8);
        Check.dueNumber("1: none takes part", x.count(4), 0);
        Check.dueNumber("1: the kept assignment is at first without channels", x.count(5), 0);
        Check.dueNumber("1: the buffer is empty", x.count(6), 0);
        Check.dueNumber("1: no auction is known", x.count(7), 0);
        Check.dueNumber("1: the set of available channels contains all at first", x.setAvailable(1), 255);
        Check.dueNumber("1: stations are numbered from 0", x.addStation(1, 1, 1), 0);
        Edges.of("1: nothing was saved", "restore", Given.NEW).refused(STATE);
        Edges.of("1: the empty set is feasible", "isFeasible", Given.NEW).allowed(true, 0);
    }

    private static void stationsAtMost() {
        Edges.of("There are at most 12 stations", "addStation", Given.NEW).allowed(0, 1, 2, 3);
        Edges.of("There are at most 12 stations", "addStation", Given.ELEVEN).allowed(11, 1, 2, 3);
        Edges.of("2: if there are 12 stations", "addStation", Given.FULL).refused(STATE, 1, 2, 3);
        SpectrumReallocator y = Given.FULL.made();
        Check.due("3: the last one there", y.isFeasible(2048), true);
        y.removeStation();
        Check.throwing("3: not there any more", ARGUMENT, () -> y.isFeasible(2048));
        Check.dueNumber("2: another last one", y.addStation(0, 2, 3), 11);
        Check.due("2: without channels", y.isFeasible(2048), false);
        SpectrumReallocator x = Given.FULL.made();
        x.removeStation();
        Check.dueNumber("2: when one of 12 was removed", x.addStation(1, 2, 3), 11);
        Check.throwing("2: 12 again", STATE, () -> x.addStation(1, 2, 3));
    }

    private static void channelsOfAStation() {
        Edges.of("2: if a bit is set for no channel", "addStation", Given.QUIET).allowed(3, 0, 5, 5)
                .allowed(3, 1, 5, 5).allowed(3, 128, 5, 5).allowed(3, 255, 5, 5).refused(ARGUMENT, -1, 5, 5)
                .refused(ARGUMENT, 256, 5, 5).refused(ARGUMENT, 257, 5, 5).refused(ARGUMENT, 511, 5, 5)
                .refused(ARGUMENT, 1 << 16, 5, 5).refused(ARGUMENT, 1 << 30, 5, 5).refused(ARGUMENT, LEAST, 5, 5)
                .refused(ARGUMENT, LEAST | 1, 5, 5).refused(ARGUMENT, -256, 5, 5).refused(ARGUMENT, MOST, 5, 5);
        for (int channel = 0; channel < 8; channel++) {
            SpectrumReallocator x = new SpectrumReallocator();
            x.addStation(1 << channel, 5, 5);
            x.assign(1);
            Check.dueNumber("channels are numbered from 0 to 7", x.station(0, 5), channel);
        }
    }

    private static void valueAndWeight() {
        Edges.of("2: the value, 0 to 9999", "addStation", Given.QUIET).refused(ARGUMENT, 1, -1, 5).allowed(3, 1, 0, 5)
                .allowed(3, 1, 9999, 5).refused(ARGUMENT, 1, 10000, 5).refused(ARGUMENT, 1, LEAST, 5)
                .refused(ARGUMENT, 1, MOST, 5);
        Edges.of("2: the weight, 1 to 99", "addStation", Given.QUIET).refused(ARGUMENT, 1, 5, 0).allowed(3, 1, 5, 1)
                .allowed(3, 1, 5, 99).refused(ARGUMENT, 1, 5, 100).refused(ARGUMENT, 1, 5, -1)
                .refused(ARGUMENT, 1, 5, LEAST).refused(ARGUMENT, 1, 5, MOST);
        SpectrumReallocator x = new SpectrumReallocator();
        x.addStation(0, 0, 1);
        x.addStation(255, 9999, 99);
        int[][] due = {{0, 0, 1, 1, 0, -1}, {255, 9999, 99, 1, 0, -1}};
        for (int station = 0; station < 2; station++) {
            for (int what = 0; what < 6; what++) {
                Check.dueNumber("2: the last values are kept", x.station(station, what), due[station][what]);
            }
        }
    }

    private static void addStationRefused() {
        Edges.of("2: if an auction is known", "addStation", Given.BIDDING, Given.OVER, Given.RESTORED, Given.EMPTY_OPEN,
                Given.LATE).refused(UNSUPPORTED, 1, 2, 3);
        Edges.of("2: no auction is known any more", "addStation", Given.CLOSED, Given.CANCELLED, Given.RESTORED_OUT)
                .allowed(3, 1, 2, 3);
        Edges.of("2: the exception listed first", "addStation", Given.BIDDING, Given.FULL, Given.FULL_OPEN)
                .refused(ARGUMENT, 256, 2, 3).refused(ARGUMENT, -1, 2, 3).refused(ARGUMENT, 1, -1, 3)
                .refused(ARGUMENT, 1, 10000, 3).refused(ARGUMENT, 1, 2, 0).refused(ARGUMENT, 1, 2, 100);
        Edges.of("2: an auction before 12 stations", "addStation", Given.FULL_OPEN, Given.FULL_OVER)
                .refused(UNSUPPORTED, 1, 2, 3);
    }

    private static void removeStation() {
        Edges.of("3: the number of remaining stations", "removeStation", Given.FULL).allowed(11);
        Edges.of("3: the number of remaining stations", "removeStation", Given.ONE).allowed(0);
        Edges.of("3: if there are no stations", "removeStation", Given.NEW).refused(STATE);
        Edges.of("3: if an auction is known", "removeStation", IN_AUCTION).refused(UNSUPPORTED);
        Edges.of("3: an auction before no stations", "removeStation", Given.EMPTY_OPEN).refused(UNSUPPORTED);
        Edges.of("3: no auction any more", "removeStation", Given.CLOSED, Given.CANCELLED).allowed(2);
        SpectrumReallocator x = Given.FULL.made();
        Make.conflicts(x, Make.pairs(12, "ca"));
        x.setAvailable(1);
        x.assign(1);
        for (int left = 11; left >= 0; left--) {
            Check.dueNumber("3: down to none", x.removeStation(), left);
            Check.dueNumber("3: and its conflicts of the kind 0", x.count(1), left * (left - 1) / 2);
            Check.dueNumber("3: and its conflicts of the kind 1", x.count(2), left * (left - 1) / 2);
            Check.dueNumber("3: the other ones keep their channels", x.count(5), left == 0 ? 0 : 1);
        }
        Check.throwing("3: none left", STATE, x::removeStation);
        Check.dueNumber("3: numbered from 0 again", x.addStation(1, 1, 1), 0);
        Check.dueNumber("3: without a channel", x.station(0, 5), -1);
    }

    private static void removedConflicts() {
        SpectrumReallocator y = Make.stations(3, "0-2ca;1-2ca");
        y.removeStation();
        y.addStation(1, 1, 1);
        Make.conflicts(y, "0-1ca");
        Check.due("3: its conflicts do not come back", Make.conflictsOf(y), "0-1ca");
        SpectrumReallocator z = Given.QUIET.made();
        z.setConflicts();
        z.restore();
        Make.conflicts(z, "0-1");
        Check.due("39: nor do those before it was restored", Make.conflictsOf(z), "1-2ca");
    }

    private static void setParticipates() {
        Edges.of("4: if there is no such station", "setParticipates", Given.QUIET).refused(INDEX, -1, false)
                .allowed(true, 0, false).allowed(true, 2, false).refused(INDEX, 3, false).refused(INDEX, LEAST, false)
                .refused(INDEX, MOST, true).refused(INDEX, 32, false).refused(INDEX, -32, false);
        Edges.of("4: if there is no such station", "setParticipates", Given.FULL).allowed(true, 11, true)
                .refused(INDEX, 12, true);
        Edges.of("4: if there is no such station", "setParticipates", Given.NEW).refused(INDEX, 0, true);
        Edges.of("4: if an auction is known", "setParticipates", IN_AUCTION).refused(UNSUPPORTED, 0, true)
                .refused(UNSUPPORTED, 2, false);
        Edges.of("4: the exception listed first", "setParticipates", IN_AUCTION).refused(INDEX, -1, true)
                .refused(INDEX, 3, false);
        SpectrumReallocator x = Given.FULL.made();
        for (int station = 0; station < 12; station++) {
            Check.due("4: it does at first", x.setParticipates(station, false), true);
            Check.dueNumber("4: one less", x.count(4), 11 - station);
        }
        for (int station = 11; station >= 0; station--) {
            Check.due("4: whether it took part", x.setParticipates(station, true), false);
            Check.dueNumber("4: one more", x.count(4), 12 - station);
            Check.dueNumber("4: it takes part again", x.station(station, 3), 1);
        }
        Edges.of("4: no auction any more", "setParticipates", Given.CLOSED, Given.CANCELLED).allowed(false, 0, true);
    }

    private static void setValue() {
        Edges.of("5: if there is no such station", "setValue", Given.QUIET).refused(INDEX, -1, 5).allowed(77, 0, 5)
                .allowed(300, 2, 5).refused(INDEX, 3, 5).refused(INDEX, LEAST, 5).refused(INDEX, MOST, 5)
                .refused(INDEX, 32, 5);
        Edges.of("5: the value, 0 to 9999", "setValue", Given.QUIET).refused(ARGUMENT, 1, -1).allowed(200, 1, 0)
                .allowed(200, 1, 9999).refused(ARGUMENT, 1, 10000).refused(ARGUMENT, 1, LEAST)
                .refused(ARGUMENT, 1, MOST);
        Edges.of("5: if an auction is known", "setValue", IN_AUCTION).refused(UNSUPPORTED, 0, 0)
                .refused(UNSUPPORTED, 2, 9999);
        Edges.of("5: no such station before the value", "setValue", Given.QUIET).refused(INDEX, -1, -1)
                .refused(INDEX, 3, 10000);
        Edges.of("5: the exception listed first", "setValue", IN_AUCTION).refused(INDEX, 3, 5).refused(INDEX, -1, -1)
                .refused(INDEX, 3, 10000).refused(ARGUMENT, 0, -1).refused(ARGUMENT, 2, 10000);
        SpectrumReallocator x = Given.QUIET.made();
        x.setValue(0, 9999);
        Check.dueNumber("5: the previous value at its end", x.setValue(0, 0), 9999);
        Check.dueNumber("5: the previous value at its other end", x.setValue(0, 1), 0);
    }

    private static void setAvailable() {
        Edges.of("6: if a bit is set for no channel", "setAvailable", Given.NEW, Given.QUIET).refused(ARGUMENT, -1)
                .allowed(255, 0).allowed(255, 1).allowed(255, 128).allowed(255, 255).refused(ARGUMENT, 256)
                .refusedEach(ARGUMENT, 257, 511, 1 << 16, LEAST, LEAST | 3, -256, MOST);
        Edges.of("6: if an auction is known", "setAvailable", Given.BIDDING, Given.OVER, Given.EMPTY_OPEN)
                .refused(UNSUPPORTED, 0).refused(UNSUPPORTED, 255);
        Edges.of("6: the exception listed first", "setAvailable", Given.BIDDING, Given.OVER, Given.EMPTY_OPEN)
                .refusedEach(ARGUMENT, -1, 256, LEAST);
        Edges.of("6: no auction any more", "setAvailable", Given.CLOSED, Given.CANCELLED).allowed(3, 255);
        SpectrumReallocator x = new SpectrumReallocator();
        x.setAvailable(0);
        Check.dueNumber("6: the previous set, empty", x.setAvailable(255), 0);
        Check.dueNumber("6: the previous set, full", x.setAvailable(128), 255);
    }

    private static void interference() {
        SpectrumReallocator x = new SpectrumReallocator();
        for (int channel = 0; channel < 8; channel++) {
            x.addStation(1 << channel, 1, 1);
        }
        Make.conflicts(x, Make.pairs(8, "a"));
        for (int one = 0; one < 8; one++) {
            for (int other = one + 1; other < 8; other++) {
                Check.due("kind 1: numbers that differ by 1, " + one + " and " + other,
                        x.isFeasible(1 << one | 1 << other), other - one != 1);
            }
        }
        SpectrumReallocator y = new SpectrumReallocator();
        y.addStation(128, 1, 1);
        y.addStation(128, 1, 1);
        Check.due("no conflict: the same channel", y.isFeasible(3), true);
        Make.conflicts(y, "0-1a");
        Check.due("kind 1: the same channel", y.isFeasible(3), true);
        Make.conflicts(y, "0-1c");
        Check.due("kind 0: the same channel", y.isFeasible(3), false);
        y.removeStation();
        y.addStation(64, 1, 1);
        Make.conflicts(y, "0-1c");
        Check.due("kind 0: channels that differ by 1", y.isFeasible(3), true);
        Make.conflicts(y, "0-1ca");
        Check.due("both kinds: channels that differ by 1", y.isFeasible(3), false);
    }

    private static void keptAssignmentStays() {
        SpectrumReallocator x = Make.stations(3, "");
        x.assign(7);
        x.setAvailable(0);
        Make.conflicts(x, "0-1ca;1-2ca");
        x.addStation(255, 1, 1);
        Check.due("the kept assignment stays as it is", Make.keptOf(x), "000-");
        x.removeStation();
        x.removeStation();
        Check.due("also when stations are removed", Make.keptOf(x), "00");
        x.addStation(255, 1, 1);
        Check.due("an added station has no channel", Make.keptOf(x), "00-");
    }

    /** Known from its opening until it is closed, so nothing can be changed, also when it is over. */
    private static void knownAuction() {
        SpectrumReallocator x = Make.stations(2, "");
        x.setValue(0, 0);
        x.open(1000);
        for (int time = 0; time < 3; time++) {
            Check.throwing("known: addStation", UNSUPPORTED, () -> x.addStation(1, 1, 1));
            Check.throwing("known: removeStation", UNSUPPORTED, x::removeStation);
            Check.throwing("known: setParticipates", UNSUPPORTED, () -> x.setParticipates(0, true));
            Check.throwing("known: setValue", UNSUPPORTED, () -> x.setValue(0, 0));
            Check.throwing("known: setAvailable", UNSUPPORTED, () -> x.setAvailable(255));
            Check.throwing("known: setConflicts", UNSUPPORTED, x::setConflicts);
            Check.throwing("known: open", UNSUPPORTED, () -> x.open(1000));
            x.run(10 + time);
        }
        x.close();
        Check.dueNumber("closed: addStation", x.addStation(1, 1, 1), 2);
        Check.dueNumber("closed: removeStation", x.removeStation(), 2);
        Check.due("closed: setParticipates", x.setParticipates(0, true), true);
        Check.dueNumber("closed: setValue", x.setValue(0, 0), 0);
        Check.dueNumber("closed: setAvailable", x.setAvailable(255), 255);
        Make.text(x, "0-1");
        Check.dueNumber("closed: setConflicts", x.setConflicts(), 1);
        Check.dueNumber("closed: open", x.open(1000), 2);
    }

    private static void charactersOfTheBuffer() {
        for (int shift = 0; shift < 32; shift += 8) {
            Edges.of("7: bytes that are 0 are skipped", "append", Given.QUIET).allowed(7, 0x30303030 & ~(255 << shift));
            Edges.of("7: a byte from 33 to 126", "append", Given.QUIET).refused(ARGUMENT, 32 << shift)
                    .allowed(5, 33 << shift).allowed(5, 126 << shift).refused(ARGUMENT, 127 << shift)
                    .refused(ARGUMENT, 1 << shift).refused(ARGUMENT, 128 << shift).refused(ARGUMENT, 255 << shift)
                    .refused(ARGUMENT, 161 << shift);
            int others = 0x30303030 & ~(255 << shift);
            Edges.of("7: one wrong byte of four", "append", Given.QUIET).refused(ARGUMENT, others | 32 << shift)
                    .allowed(8, others | 33 << shift).allowed(8, others | 126 << shift)
                    .refused(ARGUMENT, others | 127 << shift);
        }
        Edges.of("7: nothing to append", "append", Given.NEW).allowed(0, 0);
        SpectrumReallocator x = Make.stations(2, "");
        x.append(0x30002d31);
        x.append(0x63000061);
        x.setConflicts();
        Check.due("7: from the most significant byte to the least", Make.conflictsOf(x), "0-1ca");
    }

    private static void lengthOfTheBuffer() {
        Edges.of("7: a buffer holds at most 40 characters", "append", Given.ONE_LEFT).allowed(40, 0x3b)
                .allowed(40, 0x3b000000).allowed(39, 0).refused(STATE, 0x3b3b).refused(STATE, 0x3b00003b)
                .refused(STATE, 0x3b3b3b3b);
        Edges.of("7: a buffer holds at most 40 characters", "append", Given.BRIMFUL).allowed(40, 0)
                .refused(STATE, 0x3b).refused(STATE, 0x3b000000).refused(STATE, 0x3b3b3b3b);
        Edges.of("7: the exception listed first", "append", Given.BRIMFUL, Given.ONE_LEFT)
                .refusedEach(ARGUMENT, 32, 127, 0x3b3b3b20, 0x7f3b3b3b, -1, LEAST, 0x013b3b3b);
        SpectrumReallocator x = new SpectrumReallocator();
        for (int length = 4; length <= 36; length += 4) {
            Check.dueNumber("7: the number of characters", x.append(0x21212121), length);
        }
        Check.dueNumber("7: just 40", x.append(0x21212121), 40);
        Check.throwing("7: more than 40", STATE, () -> x.append(0x21));
        Check.throwing("8: 40 characters are read", ARGUMENT, x::setConflicts);
        Check.dueNumber("8: the buffer is empty afterwards", x.append(0x21212121), 4);
        SpectrumReallocator y = Given.BIDDING.made();
        Check.dueNumber("7: also while an auction is known", y.append(0x3b302d31), 8);
    }

    private static void setConflicts() {
        Edges.of("8: the number of pairs", "setConflicts", Given.QUIET).allowed(1);
        Edges.of("8: 40 characters", "setConflicts", Given.BRIMFUL).allowed(8);
        Edges.of("8: 39 characters", "setConflicts", Given.ONE_LEFT).allowed(8);
        Edges.of("8: if an auction is known", "setConflicts", Given.BIDDING, Given.OVER, Given.RESTORED)
                .refused(UNSUPPORTED);
        Scene wrongInAuction = Scene.named("an error in the buffer in an auction").after(Given.BIDDING).text(";0-0");
        Edges.of("8: the exception listed first", "setConflicts", wrongInAuction, Given.EMPTY_OPEN, Given.RIVALS)
                .refused(UNSUPPORTED);
        SpectrumReallocator y = wrongInAuction.made();
        Check.throwing("8: in an auction", UNSUPPORTED, y::setConflicts);
        Check.dueNumber("8: while an auction is known, the buffer stays", y.count(6), 8);
        Check.dueNumber("8: and so does the error position", y.errorPosition(), -1);
        y.cancel();
        Check.throwing("8: afterwards it is read", ARGUMENT, y::setConflicts);
        Check.dueNumber("8: with its error", y.errorPosition(), 7);
        for (String text : new String[] {"", "0-2ca;", "0-2ca;1-0;1-1", "0-2;1-0a;3-0", "1-2;x"}) {
            refusedText(text);
        }
        SpectrumReallocator z = Make.stations(12, "");
        Make.text(z, "0-1;0-1;0-1;0-1;0-1;0-1;0-1;0-1;0-1;0-1c");
        Check.dueNumber("8: the most pairs, counted again", z.setConflicts(), 10);
        Check.due("8: the later one counts", Make.conflictsOf(z), "0-1c");
        Make.text(z, "0-1ca;1-0a;0-1");
        Check.dueNumber("8: a pair that comes again", z.setConflicts(), 3);
        Check.due("8: whatever it had before", Make.conflictsOf(z), "");
    }

    /** Then no conflict changes, also none of the pairs before the error, and all else stays but the buffer. */
    private static void refusedText(String text) {
        SpectrumReallocator x = Make.stations(3, "0-1c;1-2ca");
        Scene same = Scene.named("the same text read").stations(3).conflicts("0-1c;1-2ca").text(text)
                .refused("setConflicts");
        Make.text(x, text);
        Check.throwing("8: if there is an error in " + text, ARGUMENT, x::setConflicts);
        Check.dueNumber("8: the buffer is empty, also after " + text, x.count(6), 0);
        Check.due("8: then no conflict changes, after " + text, Make.conflictsOf(x), "0-1c;1-2ca");
        Check.due("8: the state after " + text, Look.at(same.made()), Look.at(same.modelled()));
    }

    private static void stationsInTexts() {
        for (int size = 0; size <= 12; size++) {
            for (int number = 0; number <= 11; number++) {
                int first = number == 0 ? 1 : 0;
                boolean exists = number < size && first < size;
                String digits = Integer.toString(number);
                int missing = number < size ? digits.length() + 1 : 0;
                text(size, digits + "-" + first, exists ? -1 : missing);
                int second = first < size ? 2 : 0;
                text(size, first + "-" + digits, exists ? -1 : second);
            }
        }
        text(12, "0-0", 2);
        text(12, "10-10", 3);
        text(12, "11-11c", 3);
        text(12, "1-11", -1);
        text(12, "11-1", -1);
        text(12, "1-10", -1);
        text(12, "0-12", 3);
        text(12, "12-0", 1);
        text(12, "19-0", 1);
        text(12, "0-19", 3);
        text(12, "110-0", 2);
        text(12, "0-110", 4);
        text(12, "00-1", 1);
        text(12, "01-2", 1);
        text(12, "1-00", 3);
        text(12, "0-01", 2);
        text(12, "20-1", 1);
        text(12, "99-1", 1);
        text(1, "0-12", 2);
        text(2, "0-10", 2);
        text(2, "10-0", 0);
        text(10, "10-9", 0);
        text(11, "11-9", 0);
        text(11, "0-11c;0-0", 2);
        text(11, "9-10", -1);
    }

    private static void wrongCharacters() {
        text(3, "/-1", 0);
        text(12, ":-1", 0);
        text(12, ";-1", 0);
        text(12, "<-1", 0);
        text(12, "0-;", 2);
        text(12, "1:-0", 1);
        text(3, "0,1", 1);
        text(3, "0.1", 1);
        text(3, "0-/", 2);
        text(12, "0-:", 2);
        text(3, "0-1b", 3);
        text(3, "0-1d", 3);
        text(3, "0-1C", 3);
        text(3, "0-1A", 3);
        text(3, "0-1`", 3);
        text(3, "0-1cb", 4);
        text(3, "0-1cc", 4);
        text(3, "0-1aa", 4);
        text(3, "0-1ac", 4);
        text(3, "0-1cac", 5);
        text(3, "0-1caa", 5);
        text(3, "0-1:", 3);
        text(3, "0-1<", 3);
        text(3, "0-1-2", 3);
        text(3, "0-1;;1-2", 4);
        text(3, ";0-1", 0);
        text(3, "-0-1", 0);
        text(3, "0-1!", 3);
        text(3, "0-1~", 3);
        text(3, "{0-1}", 0);
        text(3, "0-1[c]", 3);
    }

    private static void textsThatEndTooEarly() {
        text(0, "", 0);
        text(12, "", 0);
        text(3, "0", 1);
        text(3, "0-", 2);
        text(3, "0-1", -1);
        text(3, "0-1c", -1);
        text(3, "0-1a", -1);
        text(3, "0-1ca", -1);
        text(3, "0-1;", 4);
        text(3, "0-1ca;", 6);
        text(3, "0-1;2", 5);
        text(3, "0-1;2-", 6);
        text(12, "10", 2);
        text(12, "11-", 3);
        String thirty = "0-1ca;1-2ca;0-2ca;1-0ca;2-1ca;";
        text(3, thirty + "2-0ca;0-1c", -1);
        text(3, thirty + "2-0ca;0-1;", 40);
        text(3, thirty + "2-0ca;1-0", -1);
        text(3, thirty + "2-0ca;10-", 36);
        text(12, thirty + "2-0ca;10-", 39);
        text(12, thirty + "2-0ca;10-9", -1);
        text(12, thirty + "20-11ca;0-", 31);
        text(12, thirty + "2-011ca;0-", 33);
        text(12, thirty + "2-0ca;1-2!", 39);
        text(12, thirty + "2-0ca;11-1", -1);
        text(1, "1", 0);
        text(1, "1-", 0);
        text(0, "0-", 0);
        text(1, "0-", 2);
        text(1, "0-0", 2);
    }

    private static void firstErrorCounts() {
        text(2, "5-5x", 0);
        text(2, "0-5x", 2);
        text(2, "0-0x", 2);
        text(2, "0-1x;5-5", 3);
        text(2, "0-1;5-5;x", 4);
        text(2, "0-1;0x5-5", 5);
        text(2, "x0-1;", 0);
        text(2, "0-1c;1-0a;0-1b;", 13);
    }

    private static void text(int stations, String text, int position) {
        SpectrumReallocator x = Make.stations(stations, "");
        Make.text(x, text);
        Check.due("9: " + stations + " stations, " + text, Check.thrownBy(x::setConflicts),
                position == -1 ? "nothing" : "IllegalArgumentException");
        Check.dueNumber("9: error position, " + stations + " stations, " + text, x.errorPosition(), position);
        Check.dueNumber("8: the buffer is empty afterwards, " + text, x.count(6), 0);
    }

    private static void errorPositionStays() {
        Edges.of("9: no text was read", "errorPosition", Given.NEW, Given.FULL, Given.EMPTY_OPEN).allowed(-1);
        Edges.of("9: that text had no error", "errorPosition", Given.QUIET, Given.BRIMFUL).allowed(-1);
        Edges.of("9: the text read most recently", "errorPosition", Given.MISREAD).allowed(4);
        SpectrumReallocator x = Given.MISREAD.made();
        x.open(1);
        Check.throwing("9: not read in an auction", UNSUPPORTED, x::setConflicts);
        Check.dueNumber("9: the error position stays", x.errorPosition(), 4);
        x.cancel();
        x.restore();
        Check.dueNumber("38: everything but the error position", x.errorPosition(), 4);
        Check.dueNumber("38: everything but the buffer", x.count(6), 6);
        Check.throwing("9: read again", ARGUMENT, x::setConflicts);
        Check.dueNumber("9: another position", x.errorPosition(), 6);
        Make.conflicts(x, "0-1");
        Check.dueNumber("9: no error any more", x.errorPosition(), -1);
    }

    private static void hasConflict() {
        Edges of = Edges.of("10: if there is no such station", "hasConflict", Given.QUIET, Given.BIDDING);
        for (int wrong : new int[] {-1, 3, LEAST, MOST, 32, 33, -32}) {
            of.refused(INDEX, wrong, 0, 0).refused(INDEX, 0, wrong, 1).refused(INDEX, wrong, wrong, 0);
            of.refused(INDEX, wrong, 0, -1).refused(INDEX, 0, wrong, 2).refused(INDEX, wrong, wrong, MOST);
        }
        of.allowed(true, 0, 1, 0).allowed(true, 2, 1, 1).allowed(false, 0, 2, 0).allowed(false, 2, 0, 1);
        Edges.of("10: if there is no such station", "hasConflict", Given.FULL).allowed(false, 0, 11, 0)
                .allowed(false, 11, 0, 1).refused(INDEX, 12, 11, 0).refused(INDEX, 11, 12, 0);
        Edges.of("10: if there is no such station", "hasConflict", Given.NEW).refused(INDEX, 0, 0, 0);
        Edges.of("10: the kind, 0 or 1", "hasConflict", Given.QUIET, Given.OVER).refused(ARGUMENT, 0, 1, -1)
                .allowed(true, 0, 1, 0).allowed(false, 0, 1, 1).refused(ARGUMENT, 0, 1, 2)
                .refused(ARGUMENT, 0, 1, LEAST).refused(ARGUMENT, 0, 1, MOST).refused(ARGUMENT, 1, 1, 2)
                .refused(ARGUMENT, 1, 1, -1);
        Edges.of("10: not if both are the same", "hasConflict", Given.QUIET).allowed(false, 0, 0, 0)
                .allowed(false, 1, 1, 1).allowed(false, 2, 2, 0);
    }

    private static void conflicts() {
        Edges.of("11: an index from 0", "conflicts", Given.QUIET, Given.BIDDING).refused(INDEX, -2).allowed(10, -1)
                .allowed((int) '0', 0).allowed((int) 'a', 9).refused(INDEX, 10)
                .refusedEach(INDEX, LEAST, MOST, 11, -33);
        Edges.of("11: without conflicts it is empty", "conflicts", Given.NEW, Given.FULL).allowed(0, -1)
                .refused(INDEX, 0).refused(INDEX, -2).refused(INDEX, 1);
        Scene all = Scene.named("all conflicts").after(Given.FULL).conflicts(Make.pairs(12, "ca"));
        Edges.of("11: all 66 pairs", "conflicts", all).refused(INDEX, -2).allowed(417, -1).allowed((int) '0', 0)
                .allowed((int) 'a', 416).refused(INDEX, 417);
        Check.due("11: all pairs in ascending order", Make.conflictsOf(all.made()), Make.pairs(12, "ca"));
        Scene ends = Scene.named("one and two digits").after(Given.FULL).conflicts("11-10a;10-9c;2-10ca;2-9a;11-0c");
        Check.due("11: lower and then higher stations", Make.conflictsOf(ends.made()),
                "0-11c;2-9a;2-10ca;9-10c;10-11a");
        SpectrumReallocator x = Make.stations(2, "0-1ca");
        Make.conflicts(x, "1-0");
        Check.dueNumber("11: empty again", x.conflicts(-1), 0);
    }

    private static void station() {
        Edges of = Edges.of("12: if there is no such station", "station", Given.QUIET, Given.BIDDING);
        for (int wrong : new int[] {-1, 3, LEAST, MOST, 32}) {
            of.refused(INDEX, wrong, 0).refused(INDEX, wrong, -1).refused(INDEX, wrong, 6);
        }
        of.allowed(255, 0, 0).allowed(255, 2, 0);
        Edges.of("12: if there is no such station", "station", Given.FULL).allowed(1200, 11, 1).refused(INDEX, 12, 1);
        Edges.of("12: if there is no such station", "station", Given.NEW).refused(INDEX, 0, 0);
        Edges.of("12: what is from 0 to 5", "station", Given.QUIET).refused(ARGUMENT, 0, -1).allowed(255, 0, 0)
                .allowed(77, 0, 1).allowed(10, 0, 2).allowed(1, 0, 3).allowed(1, 0, 4).allowed(0, 0, 5)
                .refused(ARGUMENT, 0, 6).refused(ARGUMENT, 0, LEAST).refused(ARGUMENT, 0, MOST);
        Edges.of("12: 1 if it takes part, otherwise 0", "station", Given.BIDDING).allowed(0, 0, 3).allowed(1, 1, 3);
        Edges.of("12: its channel in the kept assignment, or -1", "station", Given.QUIET).allowed(0, 0, 5)
                .allowed(1, 1, 5).allowed(-1, 2, 5);
        Scene all = Scene.named("all conflicts").after(Given.FULL).conflicts(Make.pairs(12, "ca"));
        Edges.of("12: the degree, of any kind", "station", all).allowed(11, 0, 4).allowed(11, 11, 4);
        Edges.of("12: the degree without conflicts", "station", Given.ONE, Given.FULL).allowed(0, 0, 4);
    }

    private static void volumeBits() {
        Edges.of("13: if there is no such station", "volumeBits", Given.QUIET, Given.BIDDING).refused(INDEX, -1)
                .allowed(Float.floatToIntBits(2.0f), 0).allowed(Float.floatToIntBits(2.0f), 2).refused(INDEX, 3)
                .refusedEach(INDEX, LEAST, MOST, 32, -32);
        Edges.of("13: if there is no such station", "volumeBits", Given.FULL).allowed(0x3f800000, 11)
                .refused(INDEX, 12);
        Edges.of("13: if there is no such station", "volumeBits", Given.NEW).refused(INDEX, 0);
        Scene least = Scene.named("the least volume").call("addStation", 1, 1, 1);
        Edges.of("13: degree 0 and weight 1", "volumeBits", least).allowed(Float.floatToIntBits(1.0f / 10.0f), 0);
        Scene greatest = Scene.named("the greatest volume").stations(11).call("addStation", 1, 1, 99)
                .conflicts(Make.pairs(12, "ca"));
        Edges.of("13: degree 11 and weight 99", "volumeBits", greatest)
                .allowed(Float.floatToIntBits(1188.0f / 10.0f), 11).allowed(Float.floatToIntBits(12.0f), 0);
    }

    private static void priceAt() {
        Edges of = Edges.of("14: if there is no such station", "priceAt", Given.QUIET, Given.BIDDING);
        for (int wrong : new int[] {-1, 3, LEAST, MOST, 32}) {
            of.refused(INDEX, wrong, 5).refused(INDEX, wrong, -1).refused(INDEX, wrong, 1001);
        }
        of.allowed(10, 0, 5).allowed(10, 2, 5);
        Edges.of("14: if there is no such station", "priceAt", Given.FULL).allowed(5, 11, 5).refused(INDEX, 12, 5);
        Edges.of("14: if there is no such station", "priceAt", Given.NEW).refused(INDEX, 0, 0);
        Edges.of("14: the base price, 0 to 1000", "priceAt", Given.QUIET, Given.OVER).refused(ARGUMENT, 0, -1)
                .allowed(0, 0, 0).allowed(2, 0, 1).allowed(2000, 0, 1000).refused(ARGUMENT, 0, 1001)
                .refused(ARGUMENT, 0, LEAST).refused(ARGUMENT, 0, MOST);
        Scene least = Scene.named("the least volume").call("addStation", 1, 1, 1);
        Edges.of("14: converted to int", "priceAt", least).allowed(0, 0, 0).allowed(0, 0, 9).allowed(1, 0, 10)
                .allowed(1, 0, 19).allowed(2, 0, 20).allowed((int) (0.1f * 1000f), 0, 1000);
        Scene greatest = Scene.named("the greatest volume").stations(11).call("addStation", 1, 1, 99)
                .conflicts(Make.pairs(12, "ca"));
        Edges.of("14: the greatest price", "priceAt", greatest).allowed((int) (118.8f * 1000f), 11, 1000);
    }
}
