import java.util.Arrays;
import java.util.NoSuchElementException;

/**
 * Reallocates spectrum: stations that interfere get channels, or give up their right to one in an auction with falling
 * prices. What each method promises is said in DOC.md; the comments here say only why something is done as it is.
 */
public final class SpectrumReallocator {
    private static final int STATIONS = 12;
    private static final int SETS = 1 << STATIONS;
    private static final int CHANNELS = 8;
    private static final int ALL_CHANNELS = (1 << CHANNELS) - 1;
    private static final int MAX_VALUE = 9999;
    private static final int MAX_WEIGHT = 99;
    private static final int MAX_BASE = 1000;
    private static final int MIN_DECREMENT = 10;
    private static final int MAX_DECREMENT = 1000;
    // The base price falls by 10 at least, so that it is 0 in round 100 at the latest, where every auction is over.
    private static final int ROUNDS = MAX_BASE / MIN_DECREMENT + 1;
    private static final int BUFFER_LENGTH = 40;
    // All 66 pairs of 12 stations, each with both kinds of conflicts, are written with 417 characters.
    private static final int TEXT_LENGTH = 420;
    private static final int COUNTED = 1000;
    private static final int WENT_ON_AIR = 0;
    private static final int FROZEN_BY_SET = 1;
    private static final int FROZEN_AT_ZERO = 2;
    private static final int NO_CHANNEL = -1;
    private static final int NO_ERROR = -1;
    private static final int NOT_BLOCKED = -1;

    // The helpers make what they work on themselves, so that no constructor hands out anything of its object.
    private final Chooser chooser = new Chooser();
    private final Packer packer = chooser.packer;
    private final Market market = packer.market;
    private final ConflictReader reader = new ConflictReader();
    private final Text buffer = reader.text;
    private final Text description = new Text();
    private final Auction auction = new Auction();
    private final Market savedMarket = new Market();
    private final Auction savedAuction = new Auction();
    private final int[] ranking = new int[STATIONS];
    private boolean hasSaved = false;
    private int lastError = NO_ERROR;

    public SpectrumReallocator() {
    }

    // Stations and conflicts

    public int addStation(int channels, int value, int weight)
            throws IllegalArgumentException, UnsupportedOperationException, IllegalStateException {
        requireChannels(channels);
        requireValue(value);
        if (weight < 1 || weight > MAX_WEIGHT) {
            throw new IllegalArgumentException("weight out of range");
        }
        requireNoAuction();
        if (market.size >= STATIONS) {
            throw new IllegalStateException("too many stations");
        }
        market.enter(channels, value, weight);
        packer.forget();
        return market.size - 1;
    }

    public int removeStation() throws UnsupportedOperationException, IllegalStateException {
        requireNoAuction();
        if (market.size <= 0) {
            throw new IllegalStateException("no station");
        }
        market.dropLast();
        packer.forget();
        return market.size;
    }

    public boolean setParticipates(int station, boolean participates)
            throws IndexOutOfBoundsException, UnsupportedOperationException {
        requireStation(station);
        requireNoAuction();
        boolean before = contains(market.takers, station);
        if (participates) {
            market.takers |= 1 << station;
        } else {
            market.takers &= ~(1 << station);
        }
        return before;
    }

    public int setValue(int station, int value)
            throws IndexOutOfBoundsException, IllegalArgumentException, UnsupportedOperationException {
        requireStation(station);
        requireValue(value);
        requireNoAuction();
        int before = market.values[station];
        market.values[station] = value;
        return before;
    }

    public int setAvailable(int channels) throws IllegalArgumentException, UnsupportedOperationException {
        requireChannels(channels);
        requireNoAuction();
        int before = market.available;
        market.available = channels;
        packer.forget();
        return before;
    }

    public int append(int packed) throws IllegalArgumentException, IllegalStateException {
        int added = 0;
        for (int shift = 24; shift >= 0; shift -= 8) {
            int code = packed >>> shift & 255;
            if (code != 0) {
                if (code < 33 || code > 126) {
                    throw new IllegalArgumentException("character not allowed");
                }
                added++;
            }
        }
        if (buffer.length + added > BUFFER_LENGTH) {
            throw new IllegalStateException("buffer too long");
        }
        for (int shift = 24; shift >= 0; shift -= 8) {
            int code = packed >>> shift & 255;
            if (code != 0) {
                buffer.put((char) code);
            }
        }
        return buffer.length;
    }

    public int setConflicts() throws UnsupportedOperationException, IllegalArgumentException {
        requireNoAuction();
        lastError = reader.read(market);
        buffer.length = 0;
        if (lastError != NO_ERROR) {
            throw new IllegalArgumentException("error in the text");
        }
        reader.applyTo(market);
        packer.forget();
        return reader.pairs;
    }

    public int errorPosition() {
        return lastError;
    }

    public boolean hasConflict(int one, int other, int kind)
            throws IndexOutOfBoundsException, IllegalArgumentException {
        requireStation(one);
        requireStation(other);
        if (kind != 0 && kind != 1) {
            throw new IllegalArgumentException("no such kind");
        }
        return contains(kind == 0 ? market.same[one] : market.next[one], other);
    }

    public int conflicts(int index) throws IndexOutOfBoundsException {
        describeConflicts();
        if (index == -1) {
            return description.length;
        }
        if (index < 0 || index >= description.length) {
            throw new IndexOutOfBoundsException("no such index");
        }
        return description.at(index);
    }

    public int station(int station, int what) throws IndexOutOfBoundsException, IllegalArgumentException {
        requireStation(station);
        switch (what) {
            case 0:
                return market.channels[station];
            case 1:
                return market.values[station];
            case 2:
                return market.weights[station];
            case 3:
                return contains(market.takers, station) ? 1 : 0;
            case 4:
                return market.degree(station);
            case 5:
                return market.kept[station];
            default:
                throw new IllegalArgumentException("no such property");
        }
    }

    public int volumeBits(int station) throws IndexOutOfBoundsException {
        requireStation(station);
        return floatBits(market.volume(station));
    }

    public int priceAt(int station, int base) throws IndexOutOfBoundsException, IllegalArgumentException {
        requireStation(station);
        if (base < 0 || base > MAX_BASE) {
            throw new IllegalArgumentException("base price out of range");
        }
        return market.priceWith(station, base);
    }

    // Assignments

    public boolean isFeasible(int stations) throws IllegalArgumentException {
        requireSet(stations);
        return packer.fits(stations);
    }

    public int assign(int stations) throws IllegalArgumentException, IllegalStateException {
        requireSet(stations);
        requireFeasible(stations);
        packer.settle(stations, false);
        packer.keep(stations);
        return Integer.bitCount(market.usedChannels());
    }

    public int repack(int stations) throws IllegalArgumentException, IllegalStateException {
        requireSet(stations);
        requireFeasible(stations);
        packer.settle(stations, true);
        return packer.keep(stations);
    }

    public int assignments(int stations) throws IllegalArgumentException {
        requireSet(stations);
        packer.allow(market.available);
        return packer.solutions(stations, COUNTED);
    }

    public int channelsNeeded(int stations) throws IllegalArgumentException, IllegalStateException {
        requireSet(stations);
        requireFeasible(stations);
        return packer.fewestChannels(stations);
    }

    public int core(int station, int stations)
            throws IndexOutOfBoundsException, IllegalArgumentException, NoSuchElementException {
        requireStation(station);
        requireSet(stations);
        if (packer.fits(stations | 1 << station)) {
            throw new NoSuchElementException("the station can be added");
        }
        return packer.smallestReason(station, stations);
    }

    // Auctions

    public int open(int base)
            throws IllegalArgumentException, UnsupportedOperationException, IllegalStateException {
        if (base < 1 || base > MAX_BASE) {
            throw new IllegalArgumentException("base price out of range");
        }
        requireNoAuction();
        requireFeasible(market.stayers());
        auction.begin(market, base);
        playRound();
        return Integer.bitCount(auction.bidding);
    }

    public int round(int decrement) throws IllegalArgumentException, IllegalStateException {
        requireDecrement(decrement);
        requireAuction();
        if (auction.isOver()) {
            throw new IllegalStateException("the auction is over");
        }
        auction.lower(decrement);
        playRound();
        return Integer.bitCount(auction.bidding);
    }

    public int run(int decrement) throws IllegalArgumentException, IllegalStateException {
        requireDecrement(decrement);
        requireAuction();
        int made = 0;
        while (made < ROUNDS && !auction.isOver()) {
            auction.lower(decrement);
            playRound();
            made++;
        }
        return made;
    }

    public int back(int round) throws IllegalStateException, IndexOutOfBoundsException {
        requireAuction();
        if (round < 0 || round > auction.now) {
            throw new IndexOutOfBoundsException("no such round");
        }
        auction.returnTo(round, market);
        return Integer.bitCount(auction.bidding);
    }

    public int close() throws IllegalStateException {
        requireFinished();
        packer.settle(auction.onAir, false);
        packer.keep(auction.onAir);
        auction.known = false;
        return Integer.bitCount(auction.onAir);
    }

    public int cancel() throws IllegalStateException {
        requireAuction();
        auction.known = false;
        return auction.now;
    }

    public int state(int station) throws IndexOutOfBoundsException, IllegalStateException {
        requireStation(station);
        requireAuction();
        if (contains(auction.bidding, station)) {
            return 1;
        }
        return contains(auction.frozen, station) ? 2 : 0;
    }

    public int price(int station) throws IndexOutOfBoundsException, IllegalStateException, NoSuchElementException {
        requireStation(station);
        requireAuction();
        if (!contains(market.takers, station)) {
            throw new NoSuchElementException("the station does not take part");
        }
        return auction.prices[station];
    }

    public int frozenBy(int station)
            throws IndexOutOfBoundsException, IllegalStateException, NoSuchElementException {
        requireStation(station);
        requireAuction();
        if (!contains(auction.frozen, station) || auction.blockers[station] == NOT_BLOCKED) {
            throw new NoSuchElementException("no set froze the station");
        }
        // While an auction is known nothing that core looks at changes, so that it need not be found when freezing.
        return packer.smallestReason(station, auction.blockers[station]);
    }

    public int auction(int what) throws IllegalArgumentException, IllegalStateException {
        if (what < 0 || what > 6) {
            throw new IllegalArgumentException("no such number");
        }
        requireAuction();
        switch (what) {
            case 0:
                return auction.now;
            case 1:
                return auction.bases[auction.now];
            case 2:
                return auction.onAir;
            case 3:
                return auction.bidding;
            case 4:
                return auction.frozen;
            case 5:
                return sumOver(auction.prices, auction.frozen);
            default:
                return sumOver(market.values, auction.frozen);
        }
    }

    public int event(int index) throws IllegalStateException, NoSuchElementException {
        requireAuction();
        if (index < 0 || index >= auction.eventCount) {
            throw new NoSuchElementException("no such event");
        }
        return auction.events[index];
    }

    public int order(int rank) throws NoSuchElementException {
        int ranked = rankStations();
        if (rank < 0 || rank >= ranked) {
            throw new NoSuchElementException("no such rank");
        }
        return ranking[rank];
    }

    // The best result

    public int best() throws IllegalStateException {
        requireFeasible(market.stayers());
        return chooser.bestSet();
    }

    public int leastLoss() throws IllegalStateException {
        requireFeasible(market.stayers());
        return lossWithout(chooser.bestSet());
    }

    public int efficiencyBits() throws IllegalStateException {
        requireFinished();
        int frozenValue = sumOver(market.values, auction.frozen);
        if (frozenValue == 0) {
            return floatBits(1.0f);
        }
        return floatBits((float) lossWithout(chooser.bestSet()) / (float) frozenValue);
    }

    public long meanPriceBits() throws IllegalStateException, ArithmeticException {
        requireAuction();
        int number = Integer.bitCount(auction.frozen);
        if (number == 0) {
            throw new ArithmeticException("no station is frozen");
        }
        return doubleBits((double) sumOver(auction.prices, auction.frozen) / (double) number);
    }

    // Counts and snapshots

    public int count(int what) throws IllegalArgumentException {
        switch (what) {
            case 0:
                return market.size;
            case 1:
                return pairsIn(market.same);
            case 2:
                return pairsIn(market.next);
            case 3:
                return Integer.bitCount(market.available);
            case 4:
                return Integer.bitCount(market.takers);
            case 5:
                return market.placedStations();
            case 6:
                return buffer.length;
            case 7:
                return auction.known ? auction.now + 1 : 0;
            default:
                throw new IllegalArgumentException("no such count");
        }
    }

    public int save() {
        savedMarket.copyFrom(market);
        savedAuction.copyFrom(auction);
        hasSaved = true;
        return market.size;
    }

    public int restore() throws IllegalStateException {
        if (!hasSaved) {
            throw new IllegalStateException("nothing was saved");
        }
        market.copyFrom(savedMarket);
        auction.copyFrom(savedAuction);
        packer.forget();
        return market.size;
    }

    // What a call must find

    private void requireStation(int station) throws IndexOutOfBoundsException {
        if (station < 0 || station >= market.size) {
            throw new IndexOutOfBoundsException("no such station");
        }
    }

    private void requireSet(int stations) throws IllegalArgumentException {
        if ((stations & ~market.everyone()) != 0) {
            throw new IllegalArgumentException("a bit is set for no station");
        }
    }

    private void requireChannels(int channels) throws IllegalArgumentException {
        if ((channels & ~ALL_CHANNELS) != 0) {
            throw new IllegalArgumentException("a bit is set for no channel");
        }
    }

    private void requireValue(int value) throws IllegalArgumentException {
        if (value < 0 || value > MAX_VALUE) {
            throw new IllegalArgumentException("value out of range");
        }
    }

    private void requireDecrement(int decrement) throws IllegalArgumentException {
        if (decrement < MIN_DECREMENT || decrement > MAX_DECREMENT) {
            throw new IllegalArgumentException("decrement out of range");
        }
    }

    private void requireFeasible(int stations) throws IllegalStateException {
        if (!packer.fits(stations)) {
            throw new IllegalStateException("the set is not feasible");
        }
    }

    private void requireNoAuction() throws UnsupportedOperationException {
        if (auction.known) {
            throw new UnsupportedOperationException("an auction is known");
        }
    }

    private void requireAuction() throws IllegalStateException {
        if (!auction.known) {
            throw new IllegalStateException("no auction is known");
        }
    }

    private void requireFinished() throws IllegalStateException {
        if (!auction.known || !auction.isOver()) {
            throw new IllegalStateException("no auction is known or it is not over");
        }
    }

    // The course of an auction

    private void playRound() {
        int base = auction.bases[auction.now];
        int ranked = rankStations();
        for (int rank = 0; rank < ranked; rank++) {
            if (contains(auction.bidding, ranking[rank])) {
                consider(ranking[rank], base);
            }
        }
        if (base == 0) {
            auction.freezeBidders();
        }
    }

    private void consider(int station, int base) {
        if (!packer.fits(auction.onAir | 1 << station)) {
            auction.freeze(station, auction.onAir, FROZEN_BY_SET);
            return;
        }
        int offered = market.priceWith(station, base);
        if (offered < market.values[station]) {
            auction.putOnAir(station);
        } else {
            auction.prices[station] = offered;
        }
    }

    /** Fills the ranking by insertion; equal volumes stay in ascending order. Returns how many stations it has. */
    private int rankStations() {
        int ranked = 0;
        for (int station = 0; station < market.size; station++) {
            if (contains(market.takers, station)) {
                float volume = market.volume(station);
                int place = ranked;
                while (place > 0 && market.volume(ranking[place - 1]) < volume) {
                    ranking[place] = ranking[place - 1];
                    place--;
                }
                ranking[place] = station;
                ranked++;
            }
        }
        return ranked;
    }

    private int lossWithout(int stations) {
        return sumOver(market.values, market.everyone() & ~stations);
    }

    // The text of all conflicts

    private void describeConflicts() {
        description.length = 0;
        for (int one = 0; one < market.size; one++) {
            for (int other = one + 1; other < market.size; other++) {
                describePair(one, other);
            }
        }
    }

    private void describePair(int one, int other) {
        boolean same = contains(market.same[one], other);
        boolean next = contains(market.next[one], other);
        if (!same && !next) {
            return;
        }
        if (description.length > 0) {
            description.put(';');
        }
        description.putNumber(one);
        description.put('-');
        description.putNumber(other);
        if (same) {
            description.put('c');
        }
        if (next) {
            description.put('a');
        }
    }

    // Sets and numbers

    private static boolean contains(int set, int member) {
        return (set >> member & 1) != 0;
    }

    private static int sumOver(int[] numbers, int stations) {
        int sum = 0;
        for (int station = 0; station < numbers.length; station++) {
            if (contains(stations, station)) {
                sum += numbers[station];
            }
        }
        return sum;
    }

    /** Every pair is held by both of its stations. */
    private static int pairsIn(int[] neighbours) {
        int ends = 0;
        for (int station = 0; station < neighbours.length; station++) {
            ends += Integer.bitCount(neighbours[station]);
        }
        return ends / 2;
    }

    private static int floatBits(float number) {
        return (int) bitsOf((double) number, 23, 127);
    }

    private static long doubleBits(double number) {
        return bitsOf(number, 52, 1023);
    }

    /**
     * The bits of a number that is 0 or a normal positive one, in a form with so many bits for the fraction and such a
     * bias of the exponent. They are found by arithmetic, as the library's own function is not ours to use; all steps
     * are exact, since they only multiply and divide by 2.
     */
    private static long bitsOf(double number, int fractionBits, int bias) {
        if (!(number > 0.0)) {
            return 0L;
        }
        double scaled = number;
        int exponent = bias;
        while (scaled >= 2.0 && exponent < 2 * bias) {
            scaled = scaled / 2.0;
            exponent++;
        }
        while (scaled < 1.0 && exponent > 1) {
            scaled = scaled * 2.0;
            exponent--;
        }
        return ((long) exponent << fractionBits) + (long) ((scaled - 1.0) * (double) (1L << fractionBits));
    }

    /** The stations with what belongs to them, their conflicts, the available channels and the kept assignment. */
    private static final class Market {
        private final int[] channels = new int[STATIONS];
        private final int[] values = new int[STATIONS];
        private final int[] weights = new int[STATIONS];
        private final int[] kept = new int[STATIONS];
        // The stations with which a station has a conflict of the kind 0 (same channel) and of the kind 1 (next one).
        private final int[] same = new int[STATIONS];
        private final int[] next = new int[STATIONS];
        private int size = 0;
        private int takers = 0;
        private int available = ALL_CHANNELS;

        private void enter(int mayUse, int value, int weight) {
            if (size >= STATIONS) {
                return;
            }
            channels[size] = mayUse;
            values[size] = value;
            weights[size] = weight;
            kept[size] = NO_CHANNEL;
            takers |= 1 << size;
            size++;
        }

        private void dropLast() {
            if (size <= 0) {
                return;
            }
            size--;
            takers &= everyone();
            for (int station = 0; station < size; station++) {
                same[station] &= everyone();
                next[station] &= everyone();
            }
            same[size] = 0;
            next[size] = 0;
        }

        private int everyone() {
            return (1 << size) - 1;
        }

        private int stayers() {
            return everyone() & ~takers;
        }

        private int degree(int station) {
            return Integer.bitCount(same[station] | next[station]);
        }

        private float volume(int station) {
            return (float) (degree(station) + 1) * (float) weights[station] / 10.0f;
        }

        private int priceWith(int station, int base) {
            return (int) (volume(station) * (float) base);
        }

        private int usedChannels() {
            int used = 0;
            for (int station = 0; station < size; station++) {
                if (kept[station] != NO_CHANNEL) {
                    used |= 1 << kept[station];
                }
            }
            return used;
        }

        private int placedStations() {
            int placed = 0;
            for (int station = 0; station < size; station++) {
                if (kept[station] != NO_CHANNEL) {
                    placed++;
                }
            }
            return placed;
        }

        private boolean hasNextIn(int stations) {
            for (int station = 0; station < size; station++) {
                if (contains(stations, station) && (next[station] & stations) != 0) {
                    return true;
                }
            }
            return false;
        }

        private void copyFrom(Market other) {
            System.arraycopy(other.channels, 0, channels, 0, STATIONS);
            System.arraycopy(other.values, 0, values, 0, STATIONS);
            System.arraycopy(other.weights, 0, weights, 0, STATIONS);
            System.arraycopy(other.kept, 0, kept, 0, STATIONS);
            System.arraycopy(other.same, 0, same, 0, STATIONS);
            System.arraycopy(other.next, 0, next, 0, STATIONS);
            size = other.size;
            takers = other.takers;
            available = other.available;
        }
    }

    /**
     * The course of an auction. Of earlier rounds only the base prices are kept: a station that still bids has the
     * price that belongs to the base price, and all others have not changed since their event.
     */
    private static final class Auction {
        private final int[] bases = new int[ROUNDS];
        private final int[] prices = new int[STATIONS];
        private final int[] blockers = new int[STATIONS];
        private final int[] events = new int[STATIONS];
        private boolean known = false;
        private int now = 0;
        private int onAir = 0;
        private int bidding = 0;
        private int frozen = 0;
        private int eventCount = 0;

        private void begin(Market market, int base) {
            known = true;
            now = 0;
            bases[0] = base;
            onAir = market.stayers();
            bidding = market.takers;
            frozen = 0;
            eventCount = 0;
            priceBidders(market);
        }

        private boolean isOver() {
            return bidding == 0;
        }

        private void lower(int decrement) {
            if (now + 1 < ROUNDS) {
                now++;
                bases[now] = Math.max(0, bases[now - 1] - decrement);
            }
        }

        private void priceBidders(Market market) {
            for (int station = 0; station < STATIONS; station++) {
                if (contains(bidding, station)) {
                    prices[station] = market.priceWith(station, bases[now]);
                }
            }
        }

        private void putOnAir(int station) {
            bidding &= ~(1 << station);
            onAir |= 1 << station;
            note(station, WENT_ON_AIR);
        }

        private void freeze(int station, int blockedBy, int reason) {
            bidding &= ~(1 << station);
            frozen |= 1 << station;
            blockers[station] = blockedBy;
            note(station, reason);
        }

        private void freezeBidders() {
            for (int station = 0; station < STATIONS; station++) {
                if (contains(bidding, station)) {
                    freeze(station, NOT_BLOCKED, FROZEN_AT_ZERO);
                }
            }
        }

        private void note(int station, int what) {
            if (eventCount < STATIONS) {
                events[eventCount] = 1000 * now + 10 * station + what;
                eventCount++;
            }
        }

        private void returnTo(int round, Market market) {
            while (eventCount > 0 && events[eventCount - 1] / 1000 > round) {
                eventCount--;
                int station = events[eventCount] % 1000 / 10;
                onAir &= ~(1 << station);
                frozen &= ~(1 << station);
                bidding |= 1 << station;
            }
            now = round;
            priceBidders(market);
        }

        private void copyFrom(Auction other) {
            System.arraycopy(other.bases, 0, bases, 0, ROUNDS);
            System.arraycopy(other.prices, 0, prices, 0, STATIONS);
            System.arraycopy(other.blockers, 0, blockers, 0, STATIONS);
            System.arraycopy(other.events, 0, events, 0, STATIONS);
            known = other.known;
            now = other.now;
            onAir = other.onAir;
            bidding = other.bidding;
            frozen = other.frozen;
            eventCount = other.eventCount;
        }
    }

    /** Finds assignments of sets of stations. */
    private static final class Packer {
        private final Market market = new Market();
        // The channels that each station may have in the next search.
        private final int[] allowed = new int[STATIONS];
        // Rows by the depth of the search, made once: the channels left to each station, the stations that can still
        // have each channel, and the number of solutions found with each channel.
        private final int[][] left = new int[STATIONS][STATIONS];
        private final int[][] users = new int[STATIONS][CHANNELS];
        private final int[][] found = new int[STATIONS][CHANNELS];
        // How many stations of a set can share a channel at most.
        private final int[] sharing = new int[SETS];
        private int sharingVersion = 0;
        // What was found about a set: twice the version in which it was found, plus 1 if the set is feasible.
        private final int[] verdicts = new int[SETS];
        private int version = 1;

        /** Must be called when stations, conflicts or available channels have changed. */
        private void forget() {
            version++;
        }

        private boolean fits(int stations) {
            if (stations < 0 || stations >= SETS) {
                return false;
            }
            if (verdicts[stations] >> 1 != version) {
                allow(market.available);
                verdicts[stations] = 2 * version + solutions(stations, 1);
            }
            return (verdicts[stations] & 1) == 1;
        }

        private void allow(int available) {
            for (int station = 0; station < market.size; station++) {
                allowed[station] = market.channels[station] & available;
            }
        }

        /** The number of assignments with the allowed channels, counted up to a limit. */
        private int solutions(int stations, int limit) {
            System.arraycopy(allowed, 0, left[0], 0, STATIONS);
            return search(this, 0, stations, limit);
        }

        /** Leaves to each station of a feasible set the one channel that it has in its assignment. */
        private void settle(int stations, boolean keepsOld) {
            allow(market.available);
            if (keepsOld) {
                for (int station = 0; station < market.size; station++) {
                    int old = market.kept[station];
                    if (contains(stations, station) && old != NO_CHANNEL && contains(allowed[station], old)) {
                        restrict(station, 1 << old, stations);
                    }
                }
            }
            for (int station = 0; station < market.size; station++) {
                boolean settled = !contains(stations, station);
                int choices = allowed[station];
                for (int channel = 0; channel < CHANNELS && !settled; channel++) {
                    settled = contains(choices, channel) && restrict(station, 1 << channel, stations);
                }
            }
        }

        private boolean restrict(int station, int channels, int stations) {
            int before = allowed[station];
            allowed[station] = channels;
            if (solutions(stations, 1) == 0) {
                allowed[station] = before;
                return false;
            }
            return true;
        }

        /** Keeps the settled assignment; returns how many stations have a channel in it that they did not have. */
        private int keep(int stations) {
            int changed = 0;
            for (int station = 0; station < market.size; station++) {
                int channel = contains(stations, station) ? Integer.bitCount(allowed[station] - 1) : NO_CHANNEL;
                if (channel != NO_CHANNEL && channel != market.kept[station]) {
                    changed++;
                }
                market.kept[station] = channel;
            }
            return changed;
        }

        private int fewestChannels(int stations) {
            for (int number = 0; number < CHANNELS; number++) {
                for (int channels = 0; channels <= ALL_CHANNELS; channels++) {
                    if (Integer.bitCount(channels) == number && (channels & ~market.available) == 0) {
                        allow(channels);
                        if (solutions(stations, 1) > 0) {
                            return number;
                        }
                    }
                }
            }
            return CHANNELS;
        }

        /**
         * The smallest subset that is not feasible with the station. The smaller subsets come first, since they are
         * found out about fastest.
         */
        private int smallestReason(int station, int stations) {
            int set = stations & ~(1 << station);
            int members = Integer.bitCount(set);
            for (int number = 0; number < members; number++) {
                int subset = 0;
                for (int step = 0; step < 1 << members; step++) {
                    if (Integer.bitCount(subset) == number && !fits(subset | 1 << station)) {
                        return subset;
                    }
                    // The next greater subset: the subtraction carries over the bits that the set does not have.
                    subset = subset - set & set;
                }
            }
            return set;
        }

        /** The depth is the number of stations that have a channel already. */
        private static int search(Packer packer, int depth, int stations, int limit) {
            if (depth >= STATIONS) {
                return stations == 0 ? 1 : 0;
            }
            int rest = limit == 1 ? packer.withoutEasy(depth, stations) : stations;
            if (rest == 0) {
                return 1;
            }
            int station = packer.tightest(depth, rest);
            int choices = packer.left[depth][station];
            if (rest == 1 << station) {
                return Math.min(limit, Integer.bitCount(choices));
            }
            packer.listUsers(depth, rest);
            // Only here, as most sets are found out about before this is needed.
            if (packer.sharingVersion != packer.version) {
                packer.measureSharing();
            }
            if (packer.lacksRoom(depth, rest)) {
                return 0;
            }
            boolean hasTwins = !packer.market.hasNextIn(rest);
            int total = 0;
            for (int channel = 0; channel < CHANNELS && total < limit; channel++) {
                if (contains(choices, channel)) {
                    int twin = hasTwins ? packer.twinOf(channel, choices, depth) : NO_CHANNEL;
                    if (twin != NO_CHANNEL) {
                        packer.found[depth][channel] = packer.found[depth][twin];
                    } else {
                        packer.give(channel, station, depth);
                        packer.found[depth][channel] =
                                search(packer, depth + 1, rest & ~(1 << station), limit - total);
                    }
                    total += packer.found[depth][channel];
                }
            }
            return Math.min(total, limit);
        }

        /**
         * A station with more channels left than its neighbours can take away from it gets one in any case: it need
         * not be searched for when it is only asked whether there is an assignment.
         */
        private int withoutEasy(int depth, int stations) {
            int rest = stations;
            for (int station = 0; station < market.size; station++) {
                if (contains(rest, station)) {
                    int taken = Integer.bitCount(market.same[station] & rest)
                            + 2 * Integer.bitCount(market.next[station] & rest);
                    if (Integer.bitCount(left[depth][station]) > taken) {
                        rest &= ~(1 << station);
                    }
                }
            }
            return rest;
        }

        /** The station with the fewest channels left for its neighbours: there a dead end shows soonest. */
        private int tightest(int depth, int rest) {
            int chosen = 0;
            int fewest = CHANNELS + 1;
            int most = 1;
            for (int station = 0; station < market.size; station++) {
                if (contains(rest, station)) {
                    int number = Integer.bitCount(left[depth][station]);
                    int neighbours = 1 + Integer.bitCount(market.same[station] & rest)
                            + 2 * Integer.bitCount(market.next[station] & rest);
                    if (number * most < fewest * neighbours) {
                        chosen = station;
                        fewest = number;
                        most = neighbours;
                    }
                }
            }
            return chosen;
        }

        private void listUsers(int depth, int rest) {
            Arrays.fill(users[depth], 0);
            for (int station = 0; station < market.size; station++) {
                if (contains(rest, station)) {
                    for (int channel = 0; channel < CHANNELS; channel++) {
                        users[depth][channel] |= (left[depth][station] >> channel & 1) << station;
                    }
                }
            }
        }

        /** Whether there are more stations than all channels together can have, as far as the kind 0 tells. */
        private boolean lacksRoom(int depth, int rest) {
            int room = 0;
            for (int channel = 0; channel < CHANNELS; channel++) {
                room += sharing[users[depth][channel]];
            }
            return room < Integer.bitCount(rest);
        }

        private void measureSharing() {
            sharingVersion = version;
            for (int station = 0; station < market.size; station++) {
                int friends = ~market.same[station];
                for (int set = 0; set < 1 << station; set++) {
                    sharing[set | 1 << station] = Math.max(sharing[set], 1 + sharing[set & friends]);
                }
            }
        }

        /**
         * A channel that was tried already and that can be exchanged with this one: the same stations can have both,
         * and no conflict of the kind 1 tells them apart. Both have as many solutions then.
         */
        private int twinOf(int channel, int choices, int depth) {
            for (int other = 0; other < channel; other++) {
                if (contains(choices, other) && users[depth][other] == users[depth][channel]) {
                    return other;
                }
            }
            return NO_CHANNEL;
        }

        private void give(int channel, int station, int depth) {
            if (depth + 1 >= STATIONS) {
                return;
            }
            int taken = 1 << channel;
            for (int other = 0; other < market.size; other++) {
                int lost = contains(market.same[station], other) ? taken : 0;
                if (contains(market.next[station], other)) {
                    lost |= taken << 1 | taken >> 1;
                }
                left[depth + 1][other] = left[depth][other] & ~lost;
            }
        }
    }

    /** Finds the feasible set with the greatest value. */
    private static final class Chooser {
        private final Packer packer = new Packer();
        private final Market market = packer.market;
        private int bestFound = 0;
        private int bestValue = 0;

        private int bestSet() {
            bestFound = market.stayers();
            bestValue = 0;
            extend(this, market.size - 1, bestFound, 0, sumOver(market.values, market.takers));
            return bestFound;
        }

        /**
         * Decides on a station and all those before it, with the value chosen so far and the one still to be had. The
         * sets come in descending order, so that of several equal ones the last is the least.
         */
        private static void extend(Chooser chooser, int station, int chosen, int value, int more) {
            if (value + more < chooser.bestValue) {
                return;
            }
            if (station < 0 || station >= STATIONS) {
                chooser.bestFound = chosen;
                chooser.bestValue = value;
                return;
            }
            boolean takes = contains(chooser.market.takers, station);
            int own = takes ? chooser.market.values[station] : 0;
            int with = chosen | 1 << station;
            // A station without value is never in the least of the best sets, as the set without it is as good.
            if (own > 0 && chooser.packer.fits(with)) {
                extend(chooser, station - 1, with, value + own, more - own);
            }
            extend(chooser, station - 1, chosen, value, more - own);
        }
    }

    /** Characters in a fixed row. */
    private static final class Text {
        private final char[] characters = new char[TEXT_LENGTH];
        private int length = 0;

        private void put(char character) {
            if (length < characters.length) {
                characters[length] = character;
                length++;
            }
        }

        /** Puts a number below 100. */
        private void putNumber(int number) {
            if (number >= 10) {
                put((char) ('0' + number / 10));
            }
            put((char) ('0' + number % 10));
        }

        /** The character with an index, or 0 behind the end, which no text contains. */
        private char at(int index) {
            return index >= 0 && index < length ? characters[index] : (char) 0;
        }
    }

    /** Reads conflicts from a text into rows of its own, so that an error leaves the market as it was. */
    private static final class ConflictReader {
        private final Text text = new Text();
        private final int[] same = new int[STATIONS];
        private final int[] next = new int[STATIONS];
        private int size = 0;
        private int position = 0;
        private int pairs = 0;
        private int error = NO_ERROR;

        /** Returns the error position. */
        private int read(Market market) {
            System.arraycopy(market.same, 0, same, 0, STATIONS);
            System.arraycopy(market.next, 0, next, 0, STATIONS);
            size = market.size;
            position = 0;
            pairs = 0;
            error = NO_ERROR;
            boolean more = true;
            for (int pair = 0; pair < BUFFER_LENGTH && more; pair++) {
                more = readPair() && readSeparator();
            }
            return error;
        }

        private void applyTo(Market market) {
            System.arraycopy(same, 0, market.same, 0, STATIONS);
            System.arraycopy(next, 0, market.next, 0, STATIONS);
        }

        private boolean readPair() {
            int one = readStation(-1);
            if (one < 0) {
                return false;
            }
            if (!skip('-')) {
                error = position;
                return false;
            }
            int other = readStation(one);
            if (other < 0) {
                return false;
            }
            link(same, one, other, skip('c'));
            link(next, one, other, skip('a'));
            pairs++;
            return true;
        }

        private boolean readSeparator() {
            if (position >= text.length) {
                return false;
            }
            if (!skip(';')) {
                error = position;
                return false;
            }
            return true;
        }

        /** Returns the station, or -1 if there is none, or it is the excluded one; the error is set then. */
        private int readStation(int excluded) {
            int first = position;
            int number = digitAt(position);
            if (number < 0) {
                error = first;
                return -1;
            }
            position++;
            int second = digitAt(position);
            if (number == 1 && (second == 0 || second == 1)) {
                number = 10 + second;
                position++;
            }
            if (number >= size || number == excluded) {
                error = first;
                return -1;
            }
            return number;
        }

        private int digitAt(int index) {
            char character = text.at(index);
            return character >= '0' && character <= '9' ? character - '0' : -1;
        }

        private boolean skip(char wanted) {
            if (text.at(position) != wanted) {
                return false;
            }
            position++;
            return true;
        }

        private static void link(int[] neighbours, int one, int other, boolean linked) {
            if (linked) {
                neighbours[one] |= 1 << other;
                neighbours[other] |= 1 << one;
            } else {
                neighbours[one] &= ~(1 << other);
                neighbours[other] &= ~(1 << one);
            }
        }
    }
}
