import java.util.NoSuchElementException;

/**
 * Each sentence on auctions, and of the promises 21 to 32, that names an edge: base prices and decrements, prices that
 * equal a value, the base price 0, rounds to which one can go back, and auctions that are not known, over or not over.
 */
final class AuctionEdgesTest {
    private static final Class<IllegalArgumentException> ARGUMENT = IllegalArgumentException.class;
    private static final Class<IllegalStateException> STATE = IllegalStateException.class;
    private static final Class<IndexOutOfBoundsException> INDEX = IndexOutOfBoundsException.class;
    private static final Class<UnsupportedOperationException> UNSUPPORTED = UnsupportedOperationException.class;
    private static final Class<NoSuchElementException> ELEMENT = NoSuchElementException.class;
    private static final int LEAST = Integer.MIN_VALUE;
    private static final int MOST = Integer.MAX_VALUE;
    private static final Scene[] UNKNOWN = {Given.NEW, Given.QUIET, Given.STUCK, Given.CLOSED, Given.CANCELLED,
        Given.RESTORED_OUT};
    private static final Scene[] OVER = {Given.OVER, Given.EMPTY_OPEN, Given.NO_TAKER, Given.CROWDED, Given.LATE,
        Given.FULL_OVER};
    private static final Scene[] NOT_OVER = {Given.BIDDING, Given.RESTORED, Given.RIVALS, Given.FULL_OPEN,
        Given.TURNED_BACK};

    private AuctionEdgesTest() {
    }

    public static void main(String[] args) {
        openBase();
        openedAgain();
        openRefused();
        priceThatEqualsAValue();
        roundDecrement();
        basePriceFallsToZero();
        basePriceZero();
        stationsOfThisRound();
        roundRefused();
        run();
        runRefused();
        back();
        forgottenRounds();
        close();
        closeRefused();
        cancel();
        state();
        price();
        frozenBy();
        auction();
        auctionSums();
        event();
        order();
        Check.end("AuctionEdgesTest");
    }

    private static void openBase() {
        Edges.of("21: the base price, 1 to 1000", "open", Given.QUIET, Given.CANCELLED, Given.FULL).refused(ARGUMENT, 0)
                .allowed(0, 1).refusedEach(ARGUMENT, 1001, -1, LEAST, MOST);
        Edges.of("21: the base price, 1 to 1000", "open", Given.QUIET).allowed(3, 1000);
        Edges.of("21: the number of stations that are bidding", "open", Given.FULL).allowed(10, 1000).allowed(0, 99);
        Edges.of("21: no stations", "open", Given.NEW).refused(ARGUMENT, 0).allowed(0, 1).allowed(0, 1000)
                .refused(ARGUMENT, 1001);
        Scene nobody = Scene.named("none takes part").stations(1).call("setParticipates", 0, false);
        Edges.of("21: none takes part", "open", nobody).allowed(0, 1).allowed(0, 1000);
        SpectrumReallocator x = Given.QUIET.made();
        x.open(1000);
        Check.dueNumber("21: with round 0", x.auction(0), 0);
        Check.dueNumber("21: with the base price", x.auction(1), 1000);
    }

    /** Nothing of an earlier auction is left, whether it was closed or cancelled. */
    private static void openedAgain() {
        Scene closed = Scene.named("opened again").after(Given.CLOSED).call("open", 1000);
        Scene cancelled = Scene.named("opened again").after(Given.OVER).call("cancel").call("open", 1000);
        int[] due = {0, 1000, 1, 6, 0, 0, 0};
        for (int what = 0; what <= 6; what++) {
            Edges.of("21: another auction", "auction", closed, cancelled).allowed(due[what], what);
        }
        Edges.of("21: without events", "event", closed, cancelled).refused(ELEMENT, 0);
        Edges.of("21: without earlier rounds", "back", closed, cancelled).allowed(2, 0).refused(INDEX, 1);
        Edges.of("21: without reasons", "frozenBy", closed, cancelled).refused(ELEMENT, 2);
        Edges.of("21: with new prices", "price", closed, cancelled).allowed(3000, 1).allowed(2000, 2);
    }

    private static void openRefused() {
        for (Scene[] known : new Scene[][] {OVER, NOT_OVER}) {
            Edges.of("21: if an auction is known", "open", known).refused(UNSUPPORTED, 1).refused(UNSUPPORTED, 1000);
            Edges.of("21: the exception listed first", "open", known).refusedEach(ARGUMENT, 0, 1001, LEAST);
        }
        Edges.of("21: if the stations that do not take part are not feasible", "open", Given.STUCK).refused(STATE, 1)
                .refused(STATE, 1000);
        Edges.of("21: the exception listed first", "open", Given.STUCK).refusedEach(ARGUMENT, 0, 1001, -1, MOST);
        Scene dark = Scene.named("one without a channel does not take part").after(Given.DARK)
                .call("setParticipates", 2, false);
        Edges.of("21: if the stations that do not take part are not feasible", "open", dark).refused(STATE, 1);
        Edges.of("21: all take part", "open", Given.DARK).allowed(0, 1).allowed(0, 1000);
        Scene loose = Scene.named("just feasible").after(Given.STUCK).call("setAvailable", 3);
        Edges.of("21: those that do not take part are just feasible", "open", loose).allowed(0, 1).allowed(0, 1000);
    }

    private static void priceThatEqualsAValue() {
        Edges.of("if it is less than its value", "open", Given.ONE).allowed(0, 99).allowed(1, 100).allowed(1, 101);
        for (int base = 99; base <= 101; base++) {
            SpectrumReallocator x = Given.ONE.made();
            x.open(base);
            Check.dueNumber("the price with the base price " + base, x.price(0), base);
            Check.dueNumber("on the air or bidding", x.state(0), base < 100 ? 0 : 1);
        }
        SpectrumReallocator y = Given.ONE.made();
        y.open(110);
        Check.dueNumber("22: equal to the value", y.round(10), 1);
        Check.dueNumber("if not, this becomes its price", y.price(0), 100);
        Check.dueNumber("22: less than the value", y.round(10), 0);
        Check.dueNumber("its price stays as it was before", y.price(0), 100);
        Check.dueNumber("on the air", y.state(0), 0);
    }

    private static void roundDecrement() {
        Edges.of("22: 10 to 1000", "round", Given.BIDDING, Given.RESTORED).refused(ARGUMENT, 9).allowed(2, 10)
                .allowed(0, 1000).refusedEach(ARGUMENT, 1001, 0, -10, LEAST, MOST);
        Edges.of("22: 10 to 1000", "round", Given.TURNED_BACK).refused(ARGUMENT, 9).allowed(1, 10)
                .allowed(0, 1000).refused(ARGUMENT, 1001);
        SpectrumReallocator x = Given.FULL_OPEN.made();
        x.round(10);
        Check.dueNumber("22: a further round", x.auction(0), 1);
        Check.dueNumber("22: by how much it falls", x.auction(1), 990);
    }

    private static void basePriceFallsToZero() {
        int[][] falls = {{1000, 10, 990}, {1000, 999, 1}, {1000, 1000, 0}, {999, 1000, 0}, {1, 10, 0}, {9, 10, 0},
            {10, 10, 0}, {11, 10, 1}, {1, 1000, 0}, {200, 199, 1}, {200, 200, 0}, {200, 201, 0}};
        for (int[] fall : falls) {
            SpectrumReallocator x = worthless(fall[0]);
            Check.dueNumber("22: still bidding, from " + fall[0], x.round(fall[1]), fall[2] == 0 ? 0 : 1);
            Check.dueNumber("22: it falls to 0 at most, from " + fall[0], x.auction(1), fall[2]);
            Check.dueNumber("22: the price, from " + fall[0], x.price(0), fall[2]);
            Check.dueNumber("22: bidding or frozen, from " + fall[0], x.state(0), fall[2] == 0 ? 2 : 1);
        }
    }

    /** One station without a value, with the volume 1.0. */
    private static SpectrumReallocator worthless(int base) {
        SpectrumReallocator made = Make.stations(1, "");
        made.setValue(0, 0);
        made.open(base);
        return made;
    }

    private static void basePriceZero() {
        SpectrumReallocator x = Make.stations(3, "");
        x.setValue(0, 0);
        x.setValue(1, 1);
        x.setValue(2, 0);
        x.open(11);
        Check.dueNumber("base price 11", x.auction(3), 7);
        Check.dueNumber("base price 1: none is frozen", x.round(10), 3);
        Check.dueNumber("a price that equals the value 1", x.price(1), 1);
        Check.dueNumber("base price 0: none bids any more", x.round(10), 0);
        Check.dueNumber("a value of 1 is more than the price 0", x.state(1), 0);
        Check.dueNumber("a value of 0 is not", x.state(0), 2);
        Check.dueNumber("with their price 0", x.price(0), 0);
        Check.dueNumber("with their price 0, the last one too", x.price(2), 0);
        Check.dueNumber("its price stays", x.price(1), 1);
        Check.dueNumber("31: on the air first", x.event(0), 2010);
        Check.dueNumber("31: at the end of the round", x.event(1), 2002);
        Check.dueNumber("31: in ascending order", x.event(2), 2022);
        Check.throwing("22: over", STATE, () -> x.round(10));
        // At the base price 0 too, one that cannot stay is frozen at its price.
        SpectrumReallocator y = Make.stations(2, "0-1c");
        y.setAvailable(1);
        y.setValue(0, 1);
        y.setValue(1, 1);
        y.open(20);
        y.round(20);
        Check.dueNumber("one on the air at 0", y.event(0), 1000);
        Check.dueNumber("the other frozen by it", y.event(1), 1011);
        Check.dueNumber("its price stays as it was", y.price(1), 40);
        Check.dueNumber("29: by the one of this round", y.frozenBy(1), 1);
    }

    private static void stationsOfThisRound() {
        SpectrumReallocator x = Make.stations(3, "0-1c;1-2c");
        x.setAvailable(1);
        x.open(66);
        Check.dueNumber("the greatest volume first, on the air", x.event(0), 10);
        Check.dueNumber("then equal volumes in ascending order", x.event(1), 1);
        Check.dueNumber("then the last", x.event(2), 21);
        SpectrumReallocator y = Make.stations(3, "0-1c;1-2c");
        y.setAvailable(1);
        y.open(67);
        Check.dueNumber("its price is not less than its value", y.state(1), 1);
        Check.dueNumber("the others: one not yet", y.state(0), 1);
        Check.dueNumber("the others: one on the air", y.event(0), 20);
        Check.dueNumber("and the first freezes with its price of round 0 in the next round", y.round(10), 1);
        Check.dueNumber("its price stays", y.price(1), 201);
        Check.dueNumber("frozen in round 1", y.event(1), 1011);
    }

    private static void roundRefused() {
        Edges.of("22: if no auction is known", "round", UNKNOWN).refused(STATE, 10).refused(STATE, 1000);
        Edges.of("22: or it is over", "round", OVER).refused(STATE, 10).refused(STATE, 1000);
        Edges.of("22: the exception listed first", "round", UNKNOWN).refusedEach(ARGUMENT, 9, 1001, LEAST);
        Edges.of("22: the exception listed first", "round", OVER).refusedEach(ARGUMENT, 9, 1001, -1, MOST);
    }

    private static void run() {
        Edges.of("23: 0 if the auction is over already", "run", OVER).allowed(0, 10).allowed(0, 1000);
        int[][] rounds = {{1000, 10, 100}, {991, 10, 100}, {990, 10, 99}, {1000, 1000, 1}, {1000, 999, 2}, {1, 10, 1},
            {10, 10, 1}, {11, 10, 2}, {1000, 11, 91}, {1000, 500, 2}, {1000, 501, 2}, {1000, 499, 3}};
        for (int[] row : rounds) {
            SpectrumReallocator x = worthless(row[0]);
            Check.dueNumber("23: the rounds made, from " + row[0] + " by " + row[1], x.run(row[1]), row[2]);
            Check.dueNumber("23: the present round", x.auction(0), row[2]);
            Check.dueNumber("23: it falls to 0 at most", x.auction(1), 0);
            Check.dueNumber("23: until it is over", x.auction(3), 0);
            Check.dueNumber("37: rounds, the present one included", x.count(7), row[2] + 1);
            Check.dueNumber("23: over already", x.run(10), 0);
        }
        SpectrumReallocator y = Given.RIVALS.made();
        Check.dueNumber("23: no round more than needed", y.run(10), 3);
        Check.dueNumber("23: over before the base price is 0", y.run(10), 0);
    }

    private static void runRefused() {
        Edges.of("23: 10 to 1000", "run", Given.BIDDING, Given.RIVALS, Given.OVER, Given.EMPTY_OPEN)
                .refusedEach(ARGUMENT, 9, 1001, 0, -10, LEAST, MOST);
        Edges.of("23: 10 to 1000", "run", Given.BIDDING).allowed(18, 10).allowed(1, 1000);
        Edges.of("23: if no auction is known", "run", UNKNOWN).refused(STATE, 10).refused(STATE, 1000);
        Edges.of("23: the exception listed first", "run", UNKNOWN).refusedEach(ARGUMENT, 9, 1001, LEAST);
    }

    private static void back() {
        Edges.of("24: 0 up to the present one", "back", Given.BIDDING, Given.RESTORED).refused(INDEX, -1).allowed(2, 0)
                .allowed(2, 1).refusedEach(INDEX, 2, 3, 100, LEAST, MOST);
        Edges.of("24: 0 up to the present one", "back", Given.OVER).refused(INDEX, -1).allowed(2, 0).allowed(2, 2)
                .allowed(0, 3).refused(INDEX, 4);
        Edges.of("24: 0 up to the present one", "back", Given.LATE).refused(INDEX, -1).allowed(1, 0).allowed(1, 99)
                .allowed(0, 100).refusedEach(INDEX, 101, 102, MOST);
        Edges.of("24: all ten bid again", "back", Given.FULL_OVER).allowed(10, 0).allowed(0, 1).refused(INDEX, 2);
        SpectrumReallocator x = Given.FULL_OVER.made();
        x.back(0);
        Check.due("24: everything is as it was then", Look.at(x), Look.at(Given.FULL_OPEN.made()));
        Edges.of("24: in round 0", "back", Given.RIVALS).refused(INDEX, -1).allowed(2, 0).refused(INDEX, 1);
        Edges.of("24: in round 0, over at once", "back", Given.EMPTY_OPEN, Given.NO_TAKER, Given.CROWDED)
                .refused(INDEX, -1).allowed(0, 0).refused(INDEX, 1);
        Edges.of("24: if no auction is known", "back", UNKNOWN).refused(STATE, 0);
        Edges.of("24: the exception listed first", "back", UNKNOWN).refusedEach(STATE, -1, 1, LEAST, MOST);
    }

    private static void forgottenRounds() {
        Edges.of("24: or it was forgotten", "back", Given.TURNED_BACK).allowed(1, 50).allowed(1, 0)
                .refusedEach(INDEX, 51, 99, 100, 101, -1);
        SpectrumReallocator x = Given.LATE.made();
        Check.dueNumber("24: the present one", x.back(100), 0);
        Check.dueNumber("24: nothing is forgotten", x.count(7), 101);
        Check.dueNumber("24: still over", x.run(10), 0);
        Check.dueNumber("24: the one before", x.back(99), 1);
        Check.dueNumber("24: its base price", x.auction(1), 10);
        Check.dueNumber("24: its price", x.price(0), 10);
        Check.throwing("24: forgotten", INDEX, () -> x.back(100));
        Check.throwing("24: its event too", ELEMENT, () -> x.event(0));
        Check.dueNumber("24: another round 100", x.round(1000), 0);
        Check.dueNumber("24: not forgotten any more", x.back(100), 0);
        Check.dueNumber("24: back to round 0", x.back(0), 1);
        Check.dueNumber("24: its base price", x.auction(1), 1000);
        Check.dueNumber("37: one round", x.count(7), 1);
        Check.throwing("24: all others are forgotten", INDEX, () -> x.back(1));
        SpectrumReallocator y = Given.RESTORED.made();
        y.run(10);
        y.restore();
        Check.throwing("39: rounds after saving are not known", INDEX, () -> y.back(2));
        Check.dueNumber("39: the one in which it was saved", y.back(1), 2);
        SpectrumReallocator z = Given.TURNED_BACK.made();
        z.cancel();
        z.open(1000);
        Check.throwing("24: rounds of an earlier auction", INDEX, () -> z.back(1));
    }

    private static void close() {
        Edges.of("25: the number of stations on the air", "close", Given.OVER, Given.NO_TAKER).allowed(2);
        Edges.of("25: none on the air", "close", Given.EMPTY_OPEN, Given.LATE).allowed(0);
        Edges.of("25: all on the air", "close", Given.FULL_OVER).allowed(12);
        Edges.of("25: three of twelve", "close", Given.CROWDED).allowed(3);
        SpectrumReallocator x = Given.OVER.made();
        x.close();
        Check.due("25: without channels for the others", Make.keptOf(x), "01-");
        SpectrumReallocator y = Given.LATE.made();
        y.assign(1);
        y.close();
        Check.due("25: none on the air", Make.keptOf(y), "-");
        SpectrumReallocator z = Given.NO_TAKER.made();
        z.close();
        Check.due("25: those that do not take part included", Make.keptOf(z), "00");
    }

    private static void closeRefused() {
        Edges.of("25: if no auction is known", "close", UNKNOWN).refused(STATE);
        Edges.of("25: or it is not over", "close", NOT_OVER).refused(STATE);
        SpectrumReallocator x = Given.RIVALS.made();
        Check.dueNumber("25: one is bidding", x.round(15), 1);
        Check.throwing("25: not over", STATE, x::close);
        Check.dueNumber("25: none is bidding", x.round(10), 0);
        Check.dueNumber("25: over", x.close(), 1);
        Check.throwing("25: closed", STATE, x::close);
        Check.throwing("26: closed", STATE, x::cancel);
    }

    private static void cancel() {
        Edges.of("26: the number of the present round", "cancel", Given.RIVALS, Given.EMPTY_OPEN, Given.NO_TAKER)
                .allowed(0);
        Edges.of("26: the number of the present round", "cancel", Given.LATE).allowed(100);
        Edges.of("26: the number of the present round", "cancel", Given.TURNED_BACK).allowed(50);
        Edges.of("26: the number of the present round", "cancel", Given.OVER).allowed(3);
        Edges.of("26: if no auction is known", "cancel", UNKNOWN).refused(STATE);
        SpectrumReallocator x = Given.OVER.made();
        x.cancel();
        Check.due("26: without a result", Make.keptOf(x), "01-");
        SpectrumReallocator y = Given.FULL_OVER.made();
        y.cancel();
        Check.dueNumber("26: without a result", y.count(5), 0);
    }

    private static void state() {
        Edges.of("27: if there is no such station", "state", Given.BIDDING).refused(INDEX, -1).allowed(0, 0)
                .allowed(1, 2).refusedEach(INDEX, 3, LEAST, MOST, 32, -32);
        Edges.of("27: if there is no such station", "state", Given.CROWDED).allowed(0, 0).allowed(2, 11)
                .refused(INDEX, 12);
        Edges.of("27: if there is no such station", "state", Given.EMPTY_OPEN).refusedEach(INDEX, 0, -1);
        Edges.of("27: if no auction is known", "state", Given.QUIET, Given.CLOSED, Given.CANCELLED)
                .refusedEach(STATE, 0, 2);
        Edges.of("27: the exception listed first", "state", Given.NEW).refused(INDEX, 0);
        Edges.of("27: the exception listed first", "state", Given.QUIET, Given.CLOSED, Given.CANCELLED)
                .refusedEach(INDEX, -1, 3);
    }

    private static void price() {
        Edges.of("28: if there is no such station", "price", Given.BIDDING).refused(INDEX, -1).allowed(540, 1)
                .allowed(360, 2).refusedEach(INDEX, 3, LEAST, MOST, 33, -31);
        Edges.of("28: if there is no such station", "price", Given.CROWDED).allowed(9600, 0).allowed(9600, 11)
                .refused(INDEX, 12);
        Edges.of("28: if there is no such station", "price", Given.EMPTY_OPEN).refused(INDEX, 0);
        Edges.of("28: if it does not take part", "price", Given.BIDDING, Given.OVER).refused(ELEMENT, 0);
        Edges.of("28: if it does not take part", "price", Given.NO_TAKER).refusedEach(ELEMENT, 0, 1);
        Edges.of("28: if no auction is known", "price", Given.QUIET, Given.CLOSED, Given.CANCELLED)
                .refusedEach(STATE, 0, 1, 2);
        Edges.of("28: the exception listed first", "price", Given.QUIET, Given.CLOSED, Given.CANCELLED)
                .refusedEach(INDEX, -1, 3);
        Edges.of("28: the exception listed first", "price", Given.NEW).refused(INDEX, 0);
    }

    private static void frozenBy() {
        Edges.of("29: if there is no such station", "frozenBy", Given.OVER).refused(INDEX, -1).allowed(2, 2)
                .refusedEach(INDEX, 3, LEAST, MOST, 34, -30);
        Edges.of("29: if there is no such station", "frozenBy", Given.CROWDED).allowed(7, 3).allowed(7, 11)
                .refused(INDEX, 12);
        Edges.of("29: if there is no such station", "frozenBy", Given.EMPTY_OPEN).refused(INDEX, 0);
        Edges.of("29: if the station is not frozen", "frozenBy", Given.OVER).refusedEach(ELEMENT, 0, 1);
        Edges.of("29: if the station is not frozen", "frozenBy", Given.BIDDING).refusedEach(ELEMENT, 0, 1, 2);
        Edges.of("29: only because the base price was 0", "frozenBy", Given.LATE).refused(ELEMENT, 0);
        Edges.of("29: if no auction is known", "frozenBy", Given.QUIET, Given.CLOSED, Given.CANCELLED)
                .refusedEach(STATE, 0, 2);
        Edges.of("29: the exception listed first", "frozenBy", Given.QUIET, Given.CLOSED, Given.CANCELLED)
                .refusedEach(INDEX, -1, 3);
        Edges.of("29: the exception listed first", "frozenBy", Given.NEW).refused(INDEX, 0);
        Scene bare = Scene.named("no channel of its own").call("addStation", 0, 9999, 1).call("open", 1);
        Edges.of("29: possibly empty", "frozenBy", bare).allowed(0, 0);
    }

    private static void auction() {
        int[] crowded = {0, 800, 7, 0, 0xff8, 9 * 9600, 6000};
        int[] empty = {0, 1, 0, 0, 0, 0, 0};
        int[] late = {100, 0, 0, 0, 1, 0, 0};
        for (int what = 0; what <= 6; what++) {
            Edges.of("30: what is from 0 to 6", "auction", Given.CROWDED).allowed(crowded[what], what);
            Edges.of("30: what is from 0 to 6", "auction", Given.EMPTY_OPEN).allowed(empty[what], what);
            Edges.of("30: what is from 0 to 6", "auction", Given.LATE).allowed(late[what], what);
        }
        Edges.of("30: if what is not from 0 to 6", "auction", Given.BIDDING, Given.OVER, Given.EMPTY_OPEN)
                .refusedEach(ARGUMENT, -1, 7, LEAST, MOST);
        Edges.of("30: if no auction is known", "auction", UNKNOWN).refusedEach(STATE, 0, 1, 2, 3, 4, 5, 6);
        Edges.of("30: the exception listed first", "auction", UNKNOWN).refusedEach(ARGUMENT, -1, 7, LEAST, MOST);
    }

    private static void auctionSums() {
        Scene most = Scene.named("all are frozen at the greatest prices");
        for (int station = 0; station < 12; station++) {
            most.call("addStation", 0, 9999, 99);
        }
        most.conflicts(Make.pairs(12, "ca")).call("open", 1000);
        Edges.of("30: all twelve frozen", "auction", most).allowed(0, 2).allowed(0, 3).allowed(4095, 4)
                .allowed(12 * (int) (118.8f * 1000f), 5).allowed(12 * 9999, 6);
    }

    private static void event() {
        Edges.of("31: from 0", "event", Given.OVER).refused(ELEMENT, -1).allowed(3010, 0).allowed(3021, 1)
                .refusedEach(ELEMENT, 2, 11, 12, LEAST, MOST);
        Edges.of("31: twelve events", "event", Given.CROWDED).refused(ELEMENT, -1).allowed(0, 0).allowed(31, 3)
                .allowed(111, 11).refused(ELEMENT, 12);
        Edges.of("31: in round 100", "event", Given.LATE).allowed(100002, 0).refused(ELEMENT, 1);
        Edges.of("31: no events", "event", Given.RIVALS, Given.EMPTY_OPEN, Given.NO_TAKER, Given.BIDDING,
                Given.TURNED_BACK).refusedEach(ELEMENT, 0, 1, -1);
        Edges.of("31: if no auction is known", "event", UNKNOWN).refused(STATE, 0);
        Edges.of("31: the exception listed first", "event", UNKNOWN).refusedEach(STATE, -1, 12, LEAST, MOST);
        SpectrumReallocator x = Given.FULL.made();
        for (int station = 0; station < 12; station++) {
            x.setValue(station, 0);
        }
        x.open(1000);
        x.run(10);
        Check.dueNumber("31: the first of round 100", x.event(0), 100002);
        Check.dueNumber("31: the last of round 100", x.event(11), 100112);
        Check.throwing("31: no more than twelve", ELEMENT, () -> x.event(12));
    }

    private static void order() {
        Edges.of("32: the rank, from 0", "order", Given.FULL, Given.FULL_OPEN, Given.FULL_OVER, Given.CROWDED)
                .refused(ELEMENT, -1).allowed(0, 0).allowed(11, 11).refusedEach(ELEMENT, 12, 13, LEAST, MOST);
        Edges.of("32: among all stations that take part", "order", Given.BIDDING, Given.OVER, Given.CLOSED,
                Given.CANCELLED).refused(ELEMENT, -1).allowed(1, 0).allowed(2, 1).refused(ELEMENT, 2);
        Edges.of("32: one station", "order", Given.ONE, Given.LATE).allowed(0, 0).refusedEach(ELEMENT, 1, -1);
        SpectrumReallocator x = new SpectrumReallocator();
        for (int station = 0; station < 12; station++) {
            x.addStation(1, 1, 88 + station);
        }
        for (int rank = 0; rank < 12; rank++) {
            Check.dueNumber("32: descending order of the volumes", x.order(rank), 11 - rank);
        }
        Edges.of("32: if there is no such rank", "order", Given.NEW, Given.EMPTY_OPEN, Given.NO_TAKER)
                .refusedEach(ELEMENT, 0, 1, -1, LEAST);
    }
}
