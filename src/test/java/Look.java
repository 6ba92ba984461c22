import java.util.concurrent.Callable;

/** Writes down all that an object answers. It is used up by that, and asked some 500 times at most. */
final class Look {
    private final SpectrumReallocator object;
    private final StringBuilder seen = new StringBuilder();

    private Look(SpectrumReallocator object) {
        this.object = object;
    }

    static String at(SpectrumReallocator object) {
        Look look = new Look(object);
        look.lookAtStations();
        look.lookAtAuction();
        look.lookAtResults();
        look.lookAtWhatIsHidden();
        return look.seen.toString();
    }

    private void ask(String what, Callable<Object> call) {
        Object answer;
        try {
            answer = call.call();
        } catch (Throwable thrown) {
            answer = thrown.getClass().getSimpleName();
        }
        seen.append(what).append('=').append(answer).append(' ');
    }

    private void lookAtStations() {
        for (int what = 0; what <= 7; what++) {
            int number = what;
            ask("count" + what, () -> object.count(number));
        }
        ask("error", object::errorPosition);
        ask("text", () -> Make.conflictsOf(object));
        for (int station = 0; station < object.count(0); station++) {
            int number = station;
            for (int what = 0; what <= 5; what++) {
                int property = what;
                ask("s" + station + "." + what, () -> object.station(number, property));
            }
        }
    }

    private void lookAtAuction() {
        for (int what = 0; what <= 6; what++) {
            int number = what;
            ask("auction" + what, () -> object.auction(number));
        }
        for (int station = 0; station < object.count(0); station++) {
            int number = station;
            ask("state" + station, () -> object.state(number));
            ask("price" + station, () -> object.price(number));
            ask("frozenBy" + station, () -> object.frozenBy(number));
            ask("event" + station, () -> object.event(number));
        }
        ask("mean", object::meanPriceBits);
        ask("efficiency", object::efficiencyBits);
    }

    private void lookAtResults() {
        int everyone = (1 << object.count(0)) - 1;
        ask("best", object::best);
        ask("loss", object::leastLoss);
        ask("feasible", () -> object.isFeasible(everyone));
        ask("assignments", () -> object.assignments(everyone));
    }

    /** The text in the buffer, what is saved and the earlier rounds show only in what is done with them. */
    private void lookAtWhatIsHidden() {
        ask("back", () -> object.back(0));
        ask("base", () -> object.auction(1));
        ask("bidding", () -> object.auction(3));
        ask("cancel", object::cancel);
        ask("set", object::setConflicts);
        ask("error", object::errorPosition);
        ask("text", () -> Make.conflictsOf(object));
        ask("restore", object::restore);
        for (int what = 0; what <= 7; what++) {
            int number = what;
            ask("restored" + what, () -> object.count(number));
            ask("auction" + what, () -> object.auction(number));
        }
    }
}
