import java.util.ArrayList;
import java.util.Arrays;
import java.util.List;
import java.util.NoSuchElementException;
import java.util.TreeMap;

/**
 * What the document says, put as plainly as can be and without a thought for speed or room: a second opinion for
 * ModelTest. It shares no code and no method of search with the program.
 */
public final class Model {
    private static final class Station {
        int channels;
        int value;
        int weight;
        boolean participates = true;
        int kept = -1;

        Station copy() {
            Station copy = new Station();
            copy.channels = channels;
            copy.value = value;
            copy.weight = weight;
            copy.participates = participates;
            copy.kept = kept;
            return copy;
        }
    }

    private static final class Round {
        int base;
        int[] states = new int[12];
        int[] prices = new int[12];
        Integer[] reasons = new Integer[12];
        List<Integer> events = new ArrayList<>();

        Round copy() {
            Round copy = new Round();
            copy.base = base;
            copy.states = states.clone();
            copy.prices = prices.clone();
            copy.reasons = reasons.clone();
            copy.events = new ArrayList<>(events);
            return copy;
        }

        int set(int state, int size) {
            int set = 0;
            for (int s = 0; s < size; s++) {
                if (states[s] == state) {
                    set |= 1 << s;
                }
            }
            return set;
        }
    }

    private static final class World {
        List<Station> stations = new ArrayList<>();
        // "low-high" to the kinds: 1 for the kind 0, 2 for the kind 1.
        TreeMap<Integer, Integer> conflicts = new TreeMap<>();
        int available = 255;
        List<Round> rounds = null;

        World copy() {
            World copy = new World();
            for (Station station : stations) {
                copy.stations.add(station.copy());
            }
            copy.conflicts = new TreeMap<>(conflicts);
            copy.available = available;
            if (rounds != null) {
                copy.rounds = new ArrayList<>();
                for (Round round : rounds) {
                    copy.rounds.add(round.copy());
                }
            }
            return copy;
        }
    }

    private World world = new World();
    private World saved = null;
    private String buffer = "";
    private int error = -1;

    public Model() {
    }

    Model copy() {
        Model copy = new Model();
        copy.world = world.copy();
        copy.saved = saved == null ? null : saved.copy();
        copy.buffer = buffer;
        copy.error = error;
        return copy;
    }

    // Stations and conflicts

    public int addStation(int channels, int value, int weight) {
        check(channels >= 0 && channels <= 255 && value >= 0 && value <= 9999 && weight >= 1 && weight <= 99);
        unknown();
        if (size() == 12) {
            throw new IllegalStateException();
        }
        Station station = new Station();
        station.channels = channels;
        station.value = value;
        station.weight = weight;
        world.stations.add(station);
        return size() - 1;
    }

    public int removeStation() {
        unknown();
        if (size() == 0) {
            throw new IllegalStateException();
        }
        int last = size() - 1;
        world.stations.remove(last);
        for (int other = 0; other < last; other++) {
            world.conflicts.remove(key(other, last));
        }
        return last;
    }

    public boolean setParticipates(int station, boolean participates) {
        exists(station);
        unknown();
        boolean before = get(station).participates;
        get(station).participates = participates;
        return before;
    }

    public int setValue(int station, int value) {
        exists(station);
        check(value >= 0 && value <= 9999);
        unknown();
        int before = get(station).value;
        get(station).value = value;
        return before;
    }

    public int setAvailable(int channels) {
        check(channels >= 0 && channels <= 255);
        unknown();
        int before = world.available;
        world.available = channels;
        return before;
    }

    public int append(int packed) {
        StringBuilder added = new StringBuilder();
        for (byte part : new byte[] {(byte) (packed >> 24), (byte) (packed >> 16), (byte) (packed >> 8), (byte) packed}) {
            if (part != 0) {
                check(part >= 33 && part <= 126);
                added.append((char) part);
            }
        }
        if (buffer.length() + added.length() > 40) {
            throw new IllegalStateException();
        }
        buffer = buffer + added;
        return buffer.length();
    }

    public int setConflicts() {
        unknown();
        String text = buffer;
        buffer = "";
        List<int[]> pairs = new ArrayList<>();
        error = parse(text, pairs);
        check(error == -1);
        for (int[] pair : pairs) {
            world.conflicts.remove(key(pair[0], pair[1]));
            if (pair[2] != 0) {
                world.conflicts.put(key(pair[0], pair[1]), pair[2]);
            }
        }
        return pairs.size();
    }

    /** A small machine: what is awaited next is one of "first", "minus", "second", "c", "a", "separator". */
    private int parse(String text, List<int[]> pairs) {
        String awaited = "first";
        int[] pair = new int[3];
        int at = 0;
        while (at < text.length()) {
            char sign = text.charAt(at);
            switch (awaited) {
                case "first":
                case "second": {
                    String digits = stationAt(text, at);
                    if (digits.isEmpty()) {
                        return at;
                    }
                    int station = Integer.parseInt(digits);
                    if (station >= size() || awaited.equals("second") && station == pair[0]) {
                        return at;
                    }
                    at += digits.length();
                    if (awaited.equals("first")) {
                        pair = new int[] {station, -1, 0};
                        awaited = "minus";
                    } else {
                        pair[1] = station;
                        pairs.add(pair);
                        awaited = "c";
                    }
                    break;
                }
                case "minus":
                    if (sign != '-') {
                        return at;
                    }
                    at++;
                    awaited = "second";
                    break;
                case "c":
                    if (sign == 'c') {
                        pair[2] |= 1;
                        at++;
                    }
                    awaited = "a";
                    break;
                case "a":
                    if (sign == 'a') {
                        pair[2] |= 2;
                        at++;
                    }
                    awaited = "separator";
                    break;
                default:
                    if (sign != ';') {
                        return at;
                    }
                    at++;
                    awaited = "first";
            }
        }
        return Arrays.asList("c", "a", "separator").contains(awaited) ? -1 : text.length();
    }

    private static String stationAt(String text, int at) {
        for (int number = 11; number >= 0; number--) {
            if (text.startsWith(Integer.toString(number), at)) {
                return Integer.toString(number);
            }
        }
        return "";
    }

    public int errorPosition() {
        return error;
    }

    public boolean hasConflict(int one, int other, int kind) {
        exists(one);
        exists(other);
        check(kind == 0 || kind == 1);
        return one != other && (world.conflicts.getOrDefault(key(one, other), 0) >> kind & 1) == 1;
    }

    public int conflicts(int index) {
        StringBuilder text = new StringBuilder();
        world.conflicts.forEach((pair, kinds) -> text.append(text.length() == 0 ? "" : ";").append(pair / 100).append("-")
                .append(pair % 100).append((kinds & 1) != 0 ? "c" : "").append((kinds & 2) != 0 ? "a" : ""));
        if (index == -1) {
            return text.length();
        }
        if (index < 0 || index >= text.length()) {
            throw new IndexOutOfBoundsException();
        }
        return text.charAt(index);
    }

    public int station(int station, int what) {
        exists(station);
        check(what >= 0 && what <= 5);
        Station found = get(station);
        return new int[] {found.channels, found.value, found.weight, found.participates ? 1 : 0, degree(station),
            found.kept}[what];
    }

    public int volumeBits(int station) {
        exists(station);
        return Float.floatToIntBits(volume(station));
    }

    public int priceAt(int station, int base) {
        exists(station);
        check(base >= 0 && base <= 1000);
        return priceOf(station, base);
    }

    // Assignments

    public boolean isFeasible(int stations) {
        known(stations);
        return feasible(stations);
    }

    public int assign(int stations) {
        known(stations);
        int[] first = first(stations, world.available, new int[12], 0);
        if (first == null) {
            throw new IllegalStateException();
        }
        keep(first);
        return different(first);
    }

    public int repack(int stations) {
        known(stations);
        if (!feasible(stations)) {
            throw new IllegalStateException();
        }
        int[] wanted = new int[12];
        int fixed = 0;
        for (int s = 0; s < size(); s++) {
            if ((stations >> s & 1) == 1 && get(s).kept != -1) {
                wanted[s] = get(s).kept;
                if (first(stations, world.available, wanted, fixed | 1 << s) != null) {
                    fixed |= 1 << s;
                }
            }
        }
        int[] made = first(stations, world.available, wanted, fixed);
        int changed = 0;
        for (int s = 0; s < size(); s++) {
            if (made[s] != -1 && made[s] != get(s).kept) {
                changed++;
            }
        }
        keep(made);
        return changed;
    }

    public int assignments(int stations) {
        known(stations);
        return lacksChannels(stations, world.available) ? 0 : countFrom(0, stations, new int[12], 1000);
    }

    public int channelsNeeded(int stations) {
        known(stations);
        int needed = 9;
        for (int channels = 0; channels < 256; channels++) {
            if ((channels & world.available) == channels && Integer.bitCount(channels) < needed
                    && first(stations, channels, new int[12], 0) != null) {
                needed = Integer.bitCount(channels);
            }
        }
        if (needed == 9) {
            throw new IllegalStateException();
        }
        return needed;
    }

    public int core(int station, int stations) {
        exists(station);
        known(stations);
        if (feasible(stations | 1 << station)) {
            throw new NoSuchElementException();
        }
        return reason(station, stations);
    }

    private int reason(int station, int stations) {
        int set = stations & ~(1 << station);
        int found = -1;
        for (int subset = 0; subset <= set; subset++) {
            if ((subset & set) == subset && (found == -1 || Integer.bitCount(subset) < Integer.bitCount(found))
                    && !feasible(subset | 1 << station)) {
                found = subset;
            }
        }
        return found;
    }

    // Auctions

    public int open(int base) {
        check(base >= 1 && base <= 1000);
        unknown();
        if (!feasible(stayers())) {
            throw new IllegalStateException();
        }
        Round round = new Round();
        round.base = base;
        for (int s = 0; s < size(); s++) {
            round.states[s] = get(s).participates ? 1 : 0;
            round.prices[s] = priceOf(s, base);
        }
        world.rounds = new ArrayList<>();
        return play(round);
    }

    public int round(int decrement) {
        check(decrement >= 10 && decrement <= 1000);
        auctioned();
        if (over()) {
            throw new IllegalStateException();
        }
        Round round = present().copy();
        round.base = Math.max(0, round.base - decrement);
        return play(round);
    }

    public int run(int decrement) {
        check(decrement >= 10 && decrement <= 1000);
        auctioned();
        int made = 0;
        while (!over()) {
            round(decrement);
            made++;
        }
        return made;
    }

    private int play(Round round) {
        int number = world.rounds.size();
        for (int s : ranked()) {
            if (round.states[s] != 1) {
                continue;
            }
            int onAir = round.set(0, size());
            if (!feasible(onAir | 1 << s)) {
                round.states[s] = 2;
                round.reasons[s] = reason(s, onAir);
                round.events.add(number * 1000 + s * 10 + 1);
            } else if (priceOf(s, round.base) < get(s).value) {
                round.states[s] = 0;
                round.events.add(number * 1000 + s * 10);
            } else {
                round.prices[s] = priceOf(s, round.base);
            }
        }
        for (int s = 0; s < size() && round.base == 0; s++) {
            if (round.states[s] == 1) {
                round.states[s] = 2;
                round.prices[s] = 0;
                round.events.add(number * 1000 + s * 10 + 2);
            }
        }
        world.rounds.add(round);
        return Integer.bitCount(round.set(1, size()));
    }

    public int back(int round) {
        auctioned();
        if (round < 0 || round >= world.rounds.size()) {
            throw new IndexOutOfBoundsException();
        }
        while (world.rounds.size() > round + 1) {
            world.rounds.remove(world.rounds.size() - 1);
        }
        return Integer.bitCount(present().set(1, size()));
    }

    public int close() {
        auctioned();
        if (!over()) {
            throw new IllegalStateException();
        }
        int onAir = present().set(0, size());
        keep(first(onAir, world.available, new int[12], 0));
        world.rounds = null;
        return Integer.bitCount(onAir);
    }

    public int cancel() {
        auctioned();
        int number = world.rounds.size() - 1;
        world.rounds = null;
        return number;
    }

    public int state(int station) {
        exists(station);
        auctioned();
        return present().states[station];
    }

    public int price(int station) {
        exists(station);
        auctioned();
        element(get(station).participates);
        return present().prices[station];
    }

    public int frozenBy(int station) {
        exists(station);
        auctioned();
        element(present().reasons[station] != null);
        return present().reasons[station];
    }

    public int auction(int what) {
        check(what >= 0 && what <= 6);
        auctioned();
        int frozen = present().set(2, size());
        switch (what) {
            case 0:
                return world.rounds.size() - 1;
            case 1:
                return present().base;
            case 5:
                return sumOfPrices(frozen);
            case 6:
                return valueOf(frozen);
            default:
                return present().set(what - 2, size());
        }
    }

    public int event(int index) {
        auctioned();
        element(index >= 0 && index < present().events.size());
        return present().events.get(index);
    }

    public int order(int rank) {
        List<Integer> ranked = ranked();
        element(rank >= 0 && rank < ranked.size());
        return ranked.get(rank);
    }

    // The best result

    public int best() {
        if (!feasible(stayers())) {
            throw new IllegalStateException();
        }
        int best = -1;
        for (int set = 0; set < 1 << size(); set++) {
            if ((set & stayers()) == stayers() && (best == -1 || valueOf(set) > valueOf(best)) && feasible(set)) {
                best = set;
            }
        }
        return best;
    }

    public int leastLoss() {
        return valueOf((1 << size()) - 1 - best());
    }

    public int efficiencyBits() {
        auctioned();
        if (!over()) {
            throw new IllegalStateException();
        }
        int frozen = valueOf(present().set(2, size()));
        return Float.floatToIntBits(frozen == 0 ? 1.0f : (float) leastLoss() / (float) frozen);
    }

    public long meanPriceBits() {
        auctioned();
        int frozen = present().set(2, size());
        if (frozen == 0) {
            throw new ArithmeticException();
        }
        return Double.doubleToLongBits((double) sumOfPrices(frozen) / (double) Integer.bitCount(frozen));
    }

    // Counts and snapshots

    public int count(int what) {
        check(what >= 0 && what <= 7);
        switch (what) {
            case 0:
                return size();
            case 1:
            case 2:
                return (int) world.conflicts.values().stream().filter(kinds -> (kinds & what) != 0).count();
            case 3:
                return Integer.bitCount(world.available);
            case 4:
                return (int) world.stations.stream().filter(station -> station.participates).count();
            case 5:
                return (int) world.stations.stream().filter(station -> station.kept != -1).count();
            case 6:
                return buffer.length();
            default:
                return world.rounds == null ? 0 : world.rounds.size();
        }
    }

    public int save() {
        saved = world.copy();
        return size();
    }

    public int restore() {
        if (saved == null) {
            throw new IllegalStateException();
        }
        world = saved.copy();
        return size();
    }

    // What a call must find

    private static void check(boolean allowed) {
        if (!allowed) {
            throw new IllegalArgumentException();
        }
    }

    private static void element(boolean there) {
        if (!there) {
            throw new NoSuchElementException();
        }
    }

    private void exists(int station) {
        if (station < 0 || station >= size()) {
            throw new IndexOutOfBoundsException();
        }
    }

    private void known(int stations) {
        check(stations >= 0 && stations < 1 << size());
    }

    private void unknown() {
        if (world.rounds != null) {
            throw new UnsupportedOperationException();
        }
    }

    private void auctioned() {
        if (world.rounds == null) {
            throw new IllegalStateException();
        }
    }

    // Small questions

    private int size() {
        return world.stations.size();
    }

    private Station get(int station) {
        return world.stations.get(station);
    }

    private static int key(int one, int other) {
        return 100 * Math.min(one, other) + Math.max(one, other);
    }

    private int degree(int station) {
        int degree = 0;
        for (int other = 0; other < size(); other++) {
            if (world.conflicts.containsKey(key(station, other))) {
                degree++;
            }
        }
        return degree;
    }

    private float volume(int station) {
        return (float) (degree(station) + 1) * (float) get(station).weight / 10.0f;
    }

    private int priceOf(int station, int base) {
        return (int) (volume(station) * (float) base);
    }

    private List<Integer> ranked() {
        List<Integer> ranked = new ArrayList<>();
        for (int s = 0; s < size(); s++) {
            if (get(s).participates) {
                ranked.add(s);
            }
        }
        ranked.sort((a, b) -> volume(a) != volume(b) ? Float.compare(volume(b), volume(a)) : a - b);
        return ranked;
    }

    private int stayers() {
        int set = 0;
        for (int s = 0; s < size(); s++) {
            set |= get(s).participates ? 0 : 1 << s;
        }
        return set;
    }

    private int valueOf(int stations) {
        int sum = 0;
        for (int s = 0; s < size(); s++) {
            sum += (stations >> s & 1) * get(s).value;
        }
        return sum;
    }

    private int sumOfPrices(int stations) {
        int sum = 0;
        for (int s = 0; s < size(); s++) {
            sum += (stations >> s & 1) * present().prices[s];
        }
        return sum;
    }

    private Round present() {
        return world.rounds.get(world.rounds.size() - 1);
    }

    private boolean over() {
        return present().set(1, size()) == 0;
    }

    // Assignments, by trying the channels of the stations in ascending order

    private boolean feasible(int stations) {
        return first(stations, world.available, new int[12], 0) != null;
    }

    /** The first assignment with these channels, in which the fixed stations have the wanted ones; null if none. */
    private int[] first(int stations, int available, int[] wanted, int fixed) {
        int[] made = new int[size()];
        Arrays.fill(made, -1);
        boolean found = !lacksChannels(stations, available) && fillFrom(0, stations, available, wanted, fixed, made);
        return found ? made : null;
    }

    /** Told before all others are tried in vain, when a late station has no channel at all. */
    private boolean lacksChannels(int stations, int available) {
        for (int s = 0; s < size(); s++) {
            if ((stations >> s & 1) == 1 && (get(s).channels & available) == 0) {
                return true;
            }
        }
        return false;
    }

    private boolean fillFrom(int s, int stations, int available, int[] wanted, int fixed, int[] made) {
        if (s == size()) {
            return true;
        }
        if ((stations >> s & 1) == 0) {
            return fillFrom(s + 1, stations, available, wanted, fixed, made);
        }
        for (int channel = 0; channel < 8; channel++) {
            if ((available >> channel & 1) == 1 && ((fixed >> s & 1) == 0 || wanted[s] == channel)
                    && allows(s, channel, made)) {
                made[s] = channel;
                if (fillFrom(s + 1, stations, available, wanted, fixed, made)) {
                    return true;
                }
                made[s] = -1;
            }
        }
        return false;
    }

    /** Whether a station can have a channel beside those that the stations before it were given. */
    private boolean allows(int station, int channel, int[] made) {
        if ((get(station).channels >> channel & 1) == 0) {
            return false;
        }
        for (int other = 0; other < station; other++) {
            int kinds = world.conflicts.getOrDefault(key(other, station), 0);
            if (made[other] != -1 && ((kinds & 1) != 0 && made[other] == channel
                    || (kinds & 2) != 0 && Math.abs(made[other] - channel) == 1)) {
                return false;
            }
        }
        return true;
    }

    private int countFrom(int s, int stations, int[] made, int limit) {
        if (s == 0) {
            Arrays.fill(made, -1);
        }
        if (s == size()) {
            return 1;
        }
        if ((stations >> s & 1) == 0) {
            return countFrom(s + 1, stations, made, limit);
        }
        int counted = 0;
        for (int channel = 0; channel < 8 && counted < limit; channel++) {
            if ((world.available >> channel & 1) == 1 && allows(s, channel, made)) {
                made[s] = channel;
                counted += countFrom(s + 1, stations, made, limit - counted);
                made[s] = -1;
            }
        }
        return Math.min(counted, limit);
    }

    private void keep(int[] made) {
        for (int s = 0; s < size(); s++) {
            get(s).kept = made[s];
        }
    }

    private static int different(int[] made) {
        return (int) Arrays.stream(made).filter(channel -> channel != -1).distinct().count();
    }
}
