/**
 * Each sentence on the best result, counts and snapshots, and of the promises 33 to 39, that names an edge: no
 * stations, nothing frozen, nothing saved, the greatest sums; and the 512 calls for which an object is used.
 */
final class ResultEdgesTest {
    private static final Class<IllegalArgumentException> ARGUMENT = IllegalArgumentException.class;
    private static final Class<IllegalStateException> STATE = IllegalStateException.class;
    private static final Class<ArithmeticException> ARITHMETIC = ArithmeticException.class;
    private static final int LEAST = Integer.MIN_VALUE;
    private static final int MOST = Integer.MAX_VALUE;
    private static final int ONE_AS_FLOAT = Float.floatToIntBits(1.0f);
    private static final Scene[] UNKNOWN = {Given.NEW, Given.QUIET, Given.STUCK, Given.CLOSED, Given.CANCELLED,
        Given.RESTORED_OUT};
    private static final Scene[] NOT_OVER = {Given.BIDDING, Given.RESTORED, Given.RIVALS, Given.FULL_OPEN,
        Given.TURNED_BACK};
    private static final Scene ALL_FROZEN = allFrozen();

    private ResultEdgesTest() {
    }

    public static void main(String[] args) {
        best();
        leastLoss();
        resultsRefused();
        efficiencyBits();
        meanPriceBits();
        countAtTheEnds();
        countRefused();
        save();
        restore();
        whatIsNotSaved();
        manyChanges();
        manyRounds();
        manySnapshots();
        Check.end("ResultEdgesTest");
    }

    /** Twelve without channels, with the greatest values, prices and degrees. */
    private static Scene allFrozen() {
        Scene scene = Scene.named("all are frozen");
        for (int station = 0; station < 12; station++) {
            scene.call("addStation", 0, 9999, 99);
        }
        return scene.conflicts(Make.pairs(12, "ca")).call("open", 1000);
    }

    private static void best() {
        Edges.of("33: no stations", "best", Given.NEW, Given.EMPTY_OPEN).allowed(0);
        Edges.of("33: all stations", "best", Given.FULL, Given.FULL_OPEN, Given.FULL_OVER).allowed(4095);
        Edges.of("33: none can have a channel", "best", Given.DARK, ALL_FROZEN).allowed(0);
        Edges.of("33: none takes part", "best", Given.NO_TAKER).allowed(3);
        Edges.of("33: all without a value", "best", Given.LATE).allowed(0);
        Edges.of("33: the greatest sum", "best", Given.CROWDED).allowed(7);
        Scene equal = Scene.named("equal values").stations(4).conflicts("0-1c;1-2c;2-3c").call("setAvailable", 128)
                .call("setValue", 0, 9999).call("setValue", 1, 9999).call("setValue", 2, 9999)
                .call("setValue", 3, 9999);
        Edges.of("33: of several, the one that is least as an int", "best", equal).allowed(5);
        Scene more = Scene.named("one more").after(equal).call("setValue", 0, 9998);
        Edges.of("33: a sum that is greater by 1", "best", more).allowed(10);
        Scene less = Scene.named("without a value").after(equal).call("setValue", 0, 0).call("setValue", 2, 0);
        Edges.of("33: without those that add nothing", "best", less).allowed(10);
        Scene one = Scene.named("a value of 1").after(less).call("setValue", 2, 1).call("setValue", 1, 0)
                .call("setValue", 3, 0);
        Edges.of("33: a value of 1 adds something", "best", one).allowed(4);
        SpectrumReallocator x = equal.made();
        Check.dueNumber("33: the best at first", x.best(), 5);
        x.setValue(0, 0);
        x.setValue(1, 1);
        x.setValue(2, 0);
        x.setValue(3, 0);
        Check.dueNumber("33: a smaller best", x.best(), 2);
        Check.dueNumber("34: a smaller loss", x.leastLoss(), 0);
        Scene stays = Scene.named("one stays without a value").after(less).call("setParticipates", 2, false);
        Edges.of("33: with all that do not take part", "best", stays).allowed(4);
    }

    private static void leastLoss() {
        Edges.of("34: nothing is lost", "leastLoss", Given.NEW, Given.EMPTY_OPEN, Given.FULL, Given.NO_TAKER,
                Given.LATE).allowed(0);
        Edges.of("34: all is lost", "leastLoss", ALL_FROZEN).allowed(12 * 9999);
        Edges.of("34: all is lost", "leastLoss", Given.DARK).allowed(77 + 200 + 300);
        Edges.of("34: those that are not in the best set", "leastLoss", Given.CROWDED).allowed(6000);
    }

    private static void resultsRefused() {
        Scene dark = Scene.named("one without a channel does not take part").after(Given.DARK)
                .call("setParticipates", 0, false);
        for (String method : new String[] {"best", "leastLoss"}) {
            Edges.of("33, 34: if those that do not take part are not feasible", method, Given.STUCK, dark)
                    .refused(STATE);
        }
        Scene loose = Scene.named("just feasible").after(Given.STUCK).call("setAvailable", 3);
        Edges.of("33: just feasible", "best", loose).allowed(3);
        Edges.of("34: just feasible", "leastLoss", loose).allowed(300);
    }

    private static void efficiencyBits() {
        Edges.of("35: 1.0f if the latter is 0", "efficiencyBits", Given.EMPTY_OPEN, Given.NO_TAKER, Given.FULL_OVER,
                Given.LATE).allowed(ONE_AS_FLOAT);
        Edges.of("35: the best", "efficiencyBits", Given.CROWDED, Given.OVER, ALL_FROZEN).allowed(ONE_AS_FLOAT);
        Scene small = Scene.named("a small efficiency").call("addStation", 1, 102, 1).call("addStation", 1, 9999, 99)
                .conflicts("0-1c").call("open", 506).call("round", 10);
        Edges.of("35: both converted to float", "efficiencyBits", small)
                .allowed(Float.floatToIntBits(102.0f / 9999.0f));
        Edges.of("35: if no auction is known", "efficiencyBits", UNKNOWN).refused(STATE);
        Edges.of("35: or it is not over", "efficiencyBits", NOT_OVER).refused(STATE);
        SpectrumReallocator y = Given.RIVALS.made();
        y.round(15);
        Check.throwing("35: one is still bidding", STATE, y::efficiencyBits);
        y.round(10);
        Check.dueNumber("35: none is bidding", y.efficiencyBits(), Float.floatToIntBits(31f / 100f));
    }

    private static void meanPriceBits() {
        Edges.of("36: the price 0", "meanPriceBits", Given.LATE).allowed(0L);
        Edges.of("36: of nine", "meanPriceBits", Given.CROWDED).allowed(Double.doubleToLongBits(9600.0));
        double greatest = (int) (118.8f * 1000f);
        Edges.of("36: the greatest", "meanPriceBits", ALL_FROZEN).allowed(Double.doubleToLongBits(greatest));
        Edges.of("36: of one", "meanPriceBits", Given.OVER).allowed(Double.doubleToLongBits(160.0));
        Edges.of("36: if no station is frozen", "meanPriceBits", Given.BIDDING, Given.RIVALS, Given.EMPTY_OPEN,
                Given.NO_TAKER, Given.FULL_OPEN, Given.FULL_OVER, Given.TURNED_BACK).refused(ARITHMETIC);
        Edges.of("36: if no auction is known, listed first", "meanPriceBits", UNKNOWN).refused(STATE);
    }

    private static void countAtTheEnds() {
        counts(Given.NEW, 0, 0, 0, 8, 0, 0, 0, 0);
        counts(Given.QUIET, 3, 2, 1, 8, 3, 2, 4, 0);
        counts(Given.DARK, 3, 2, 1, 0, 3, 2, 4, 0);
        counts(Given.STUCK, 3, 2, 1, 1, 1, 2, 4, 0);
        counts(Given.BRIMFUL, 3, 2, 1, 8, 3, 2, 40, 0);
        counts(Given.FULL, 12, 0, 0, 8, 12, 0, 0, 0);
        counts(Given.EMPTY_OPEN, 0, 0, 0, 8, 0, 0, 0, 1);
        counts(Given.NO_TAKER, 2, 0, 0, 8, 0, 0, 0, 1);
        counts(Given.LATE, 1, 0, 0, 8, 1, 0, 0, 101);
        counts(Given.TURNED_BACK, 1, 0, 0, 8, 1, 0, 0, 51);
        counts(Given.BIDDING, 3, 2, 1, 2, 2, 2, 4, 2);
        counts(Given.CLOSED, 3, 2, 1, 2, 2, 2, 4, 0);
        counts(Given.CANCELLED, 3, 2, 1, 2, 2, 2, 4, 0);
        counts(ALL_FROZEN, 12, 66, 66, 8, 12, 0, 0, 1);
        Scene assigned = Scene.named("all have a channel").after(Given.FULL).call("assign", 4095);
        counts(assigned, 12, 0, 0, 8, 12, 12, 0, 0);
    }

    private static void counts(Scene scene, int... due) {
        for (int what = 0; what < due.length; what++) {
            Edges.of("37: the count", "count", scene).allowed(due[what], what);
        }
    }

    private static void countRefused() {
        Edges.of("37: if what is not from 0 to 7", "count", Given.NEW, Given.QUIET, Given.BIDDING, Given.OVER)
                .refusedEach(ARGUMENT, -1, 8, 32, LEAST, MOST);
    }

    private static void save() {
        Edges.of("38: the number of stations", "save", Given.NEW, Given.EMPTY_OPEN).allowed(0);
        Edges.of("38: the number of stations", "save", Given.FULL, Given.CROWDED).allowed(12);
        Edges.of("38: the number of stations", "save", Given.QUIET, Given.BIDDING, Given.OVER).allowed(3);
        Scene[] scenes = {Given.NEW, Given.FULL, Given.BIDDING, Given.OVER, Given.CROWDED, Given.LATE,
            Given.TURNED_BACK, Given.MISREAD};
        for (Scene scene : scenes) {
            SpectrumReallocator x = scene.made();
            x.save();
            changeEverything(x);
            x.restore();
            Model due = scene.modelled();
            due.save();
            Check.due("39: everything is as it was, " + scene, Look.at(x), Look.at(due));
        }
    }

    /** Another auction with stations of which no property and no conflict is as before. */
    private static void changeEverything(SpectrumReallocator x) {
        if (x.count(7) > 0) {
            x.cancel();
        }
        while (x.count(0) > 0) {
            x.removeStation();
        }
        for (int station = 0; station < 12; station++) {
            x.addStation(0x0c, station % 2 == 0 ? 0 : 7777 - station, 3 + 7 * station);
        }
        x.setAvailable(4);
        x.assign(4095);
        x.setParticipates(1, false);
        x.open(3);
        x.run(10);
    }

    private static void restore() {
        Edges.of("39: if nothing was saved", "restore", Given.NEW, Given.FULL, Given.CROWDED, Given.LATE,
                Given.EMPTY_OPEN, Given.RIVALS).refused(STATE);
        Edges.of("39: the number of stations", "restore", Given.QUIET, Given.OVER, Given.RESTORED).allowed(3);
        Scene nothing = Scene.named("saved without stations").call("save").stations(12).call("open", 1000);
        Edges.of("39: the number of stations", "restore", nothing).allowed(0);
        Scene twelve = Scene.named("saved with twelve").after(Given.FULL).call("save").call("removeStation");
        Edges.of("39: the number of stations", "restore", twelve).allowed(12);
        SpectrumReallocator x = Given.BIDDING.made();
        Check.dueNumber("39: also while an auction is known", x.restore(), 3);
        Check.dueNumber("39: none was known when it was saved", x.count(7), 0);
        Check.dueNumber("39: it stays saved", x.restore(), 3);
        x.removeStation();
        Check.dueNumber("39: it stays saved as it was", x.restore(), 3);
        Check.dueNumber("39: with its values", x.station(0, 1), 100);
        x.removeStation();
        x.save();
        Check.dueNumber("38: replacing what was saved before", x.restore(), 2);
    }

    private static void whatIsNotSaved() {
        SpectrumReallocator x = Given.BRIMFUL.made();
        x.save();
        Check.dueNumber("38: read", x.setConflicts(), 8);
        x.restore();
        Check.dueNumber("38: the buffer is not saved", x.count(6), 0);
        Check.throwing("38: it is empty", ARGUMENT, x::setConflicts);
        Check.dueNumber("38: its error position", x.errorPosition(), 0);
        x.restore();
        Check.dueNumber("38: the error position is not saved", x.errorPosition(), 0);
        Make.text(x, "0-1");
        x.restore();
        Check.dueNumber("39: the buffer stays", x.count(6), 3);
    }

    private static void manyChanges() {
        SpectrumReallocator x = new SpectrumReallocator();
        x.addStation(3, 1, 1);
        for (int time = 0; time < 102; time++) {
            Check.dueNumber("512 calls: added", x.addStation(1 << time % 2, 1, 1), 1);
            x.setAvailable(time % 3 == 0 ? 1 : 3);
            Check.due("512 calls: feasible", x.isFeasible(3), time % 3 != 0 || time % 2 == 0);
            Check.due("512 calls: alone", x.isFeasible(1), true);
            Check.dueNumber("512 calls: removed", x.removeStation(), 1);
        }
        Check.dueNumber("512 calls: the last but one", x.assign(1), 1);
    }

    private static void manyRounds() {
        SpectrumReallocator x = Given.LATE.made();
        for (int time = 0; time < 127; time++) {
            Check.dueNumber("512 calls: back", x.back(0), 1);
            Check.dueNumber("512 calls: a round", x.round(10), 1);
            Check.dueNumber("512 calls: until it is over", x.run(10), 99);
            Check.dueNumber("512 calls: the event", x.event(0), 100002);
        }
        SpectrumReallocator y = Given.ONE.made();
        for (int time = 0; time < 170; time++) {
            Check.dueNumber("512 calls: opened", y.open(1000), 1);
            Check.dueNumber("512 calls: rounds", y.run(10), 91);
            Check.dueNumber("512 calls: closed", y.close(), 1);
        }
    }

    private static void manySnapshots() {
        SpectrumReallocator x = Given.RIVALS.made();
        for (int time = 0; time < 125; time++) {
            Check.dueNumber("512 calls: saved", x.save(), 2);
            Check.dueNumber("512 calls: run", x.run(10), 3);
            Check.dueNumber("512 calls: restored", x.restore(), 2);
            Check.dueNumber("512 calls: one round", x.count(7), 1);
        }
        Check.dueNumber("512 calls: bidding", x.round(15), 1);
    }
}
