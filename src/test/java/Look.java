/**
 * Writes down all that an object, or a model, answers. It is used up by that: what is hidden in it, as the text in the
 * buffer, earlier rounds and what was saved, shows only in what is done with it.
 */
final class Look {
    // The document promises nothing after the 512th call, and a scene of up to 150 calls comes before.
    private static final int MOST_CALLS = 360;

    private final Object object;
    private final StringBuilder seen = new StringBuilder();
    private int calls = 0;

    private Look(Object object) {
        this.object = object;
    }

    static String at(Object object) {
        Look look = new Look(object);
        look.lookAtCounts();
        look.lookAtStations();
        look.lookAtAuction();
        look.lookAtEvents();
        look.lookAtResults();
        look.lookAtConflicts();
        look.lookAtEarlierRounds();
        look.lookAtBuffer();
        look.lookAtWhatWasSaved();
        return look.seen.toString();
    }

    private Object ask(String name, Object... arguments) {
        if (calls >= MOST_CALLS) {
            return "not asked";
        }
        calls++;
        Object answer = Calls.answer(object, name, arguments);
        seen.append(name);
        for (Object argument : arguments) {
            seen.append(' ').append(argument);
        }
        seen.append('=').append(answer).append('\n');
        return answer;
    }

    private int number(String name, Object... arguments) {
        Object answer = ask(name, arguments);
        return answer instanceof Integer ? (Integer) answer : -1;
    }

    private void lookAtCounts() {
        for (int what = 0; what <= 7; what++) {
            ask("count", what);
        }
        ask("errorPosition");
    }

    private int stations() {
        return number("count", 0);
    }

    private void lookAtStations() {
        int size = stations();
        for (int station = 0; station < size; station++) {
            for (int what = 0; what <= 5; what++) {
                ask("station", station, what);
            }
        }
    }

    private void lookAtAuction() {
        if (number("auction", 0) < 0) {
            return;
        }
        for (int what = 1; what <= 6; what++) {
            ask("auction", what);
        }
        int size = stations();
        for (int station = 0; station < size; station++) {
            ask("price", station);
            ask("frozenBy", station);
        }
    }

    private void lookAtEvents() {
        int index = 0;
        while (number("event", index) >= 0) {
            index++;
        }
        int rank = 0;
        while (number("order", rank) >= 0) {
            rank++;
        }
    }

    private void lookAtResults() {
        int everyone = (1 << stations()) - 1;
        ask("best");
        ask("leastLoss");
        ask("efficiencyBits");
        ask("meanPriceBits");
        ask("isFeasible", everyone);
        ask("assignments", everyone);
    }

    private void lookAtConflicts() {
        int length = number("conflicts", -1);
        for (int index = 0; index < length && index < 60; index++) {
            ask("conflicts", index);
        }
    }

    private void lookAtEarlierRounds() {
        int present = number("auction", 0);
        int size = Math.min(stations(), 3);
        for (int round = present; round >= 0; round = round > 4 ? round / 2 : round - 1) {
            ask("back", round);
            for (int what = 1; what <= 4; what++) {
                ask("auction", what);
            }
            for (int station = 0; station < size; station++) {
                ask("price", station);
            }
        }
        ask("cancel");
        ask("setAvailable", 255);
    }

    private void lookAtBuffer() {
        ask("setConflicts");
        ask("errorPosition");
        ask("count", 1);
        ask("count", 2);
        lookAtConflicts();
    }

    private void lookAtWhatWasSaved() {
        if (number("restore") < 0) {
            return;
        }
        lookAtCounts();
        lookAtAuction();
        ask("event", 0);
        ask("cancel");
        ask("setAvailable", 255);
        lookAtStations();
        lookAtConflicts();
    }
}
