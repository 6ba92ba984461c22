/** The scenes at which the tests of the promises begin. */
final class Given {
    static final Scene NEW = Scene.named("a new object");
    static final Scene ONE = Scene.named("one station").stations(1);
    static final Scene ELEVEN = Scene.named("eleven stations").stations(11);
    static final Scene FULL = Scene.named("twelve stations").stations(12);

    /** Three stations with conflicts, a kept assignment, a text in the buffer, and something saved. */
    static final Scene QUIET = Scene.named("three stations").stations(3).conflicts("0-1c;1-2ca").call("save")
            .call("setValue", 0, 77).call("assign", 3).text("0-2a");

    /** Of the same, the stations 0 and 1 do not take part, and cannot both stay on the air. */
    static final Scene STUCK = Scene.named("not feasible without those that take part").after(QUIET)
            .call("setAvailable", 1).call("setParticipates", 0, false).call("setParticipates", 1, false);
    static final Scene DARK = Scene.named("no channel is available").after(QUIET).call("setAvailable", 0);
    static final Scene MISREAD = Scene.named("after an error in the text").after(QUIET).text("!")
            .refused("setConflicts").text("1-2;0-");
    static final Scene BRIMFUL = Scene.named("a full buffer").after(QUIET)
            .text(";0-1;1-2c;0-1ca;1-2a;0-2ca;2-1;1-0ca");
    static final Scene ONE_LEFT = Scene.named("a buffer with room for one").after(QUIET)
            .text(";0-1;1-2c;0-1ca;1-2a;0-2ca;2-1;1-0c");
    static final Scene CLIQUE = Scene.named("nine in conflict").stations(9).conflicts(Make.pairs(9, "c"));

    /** Round 1 of an auction in which the stations 1 and 2 still bid, and station 0 does not take part. */
    static final Scene BIDDING = Scene.named("two bid").after(QUIET).call("setParticipates", 0, false)
            .call("setAvailable", 3).call("setValue", 1, 9).call("setValue", 2, 9).call("open", 200).call("round", 20);

    /** The same when station 1 went on the air and station 2 was frozen, in round 3 with the base price 0. */
    static final Scene OVER = Scene.named("the auction is over").after(BIDDING).call("run", 100);
    static final Scene CLOSED = Scene.named("the auction was closed").after(OVER).call("close");
    static final Scene CANCELLED = Scene.named("the auction was cancelled").after(BIDDING).call("cancel");
    static final Scene RESTORED = Scene.named("an auction that was restored").after(BIDDING).call("save")
            .call("cancel").call("removeStation").call("removeStation").call("restore");
    static final Scene RESTORED_OUT = Scene.named("restored while an auction was known").after(BIDDING)
            .call("restore");
    static final Scene EMPTY_OPEN = Scene.named("an auction without stations").call("open", 1);
    static final Scene NO_TAKER = Scene.named("an auction in which none takes part").stations(2)
            .call("setParticipates", 0, false).call("setParticipates", 1, false).call("open", 1000);
    static final Scene FULL_OPEN = Scene.named("an auction of twelve").stations(12).call("open", 1000);
    static final Scene FULL_OVER = Scene.named("an auction of twelve that is over").after(FULL_OPEN)
            .call("run", 1000);

    /** Nine of twelve are frozen in round 0, as all are in conflict and three channels are available. */
    static final Scene CROWDED = Scene.named("twelve in conflict").stations(12).conflicts(Make.pairs(12, "c"))
            .call("setAvailable", 7).call("setValue", 11, 0).call("setValue", 0, 9999).call("setValue", 1, 9999)
            .call("setValue", 2, 9999).call("open", 800);

    /**
     * Two stations with the channel 0 alone, in conflict. Station 1 with the volume 19.8 is considered first. Station 0
     * with the volume 2.0 goes on the air in round 1, with the base price 15, and station 1 is frozen in round 2.
     */
    static final Scene RIVALS = Scene.named("two rivals").call("addStation", 1, 31, 10).call("addStation", 1, 100, 99)
            .conflicts("0-1c").call("open", 30);

    /** A station without a value bids until the base price is 0. */
    static final Scene LATE = Scene.named("round 100").stations(1).call("setValue", 0, 0).call("open", 1000)
            .call("run", 10);
    static final Scene TURNED_BACK = Scene.named("back in round 50").after(LATE).call("back", 50);

    /** All but the nine in conflict, for which a model takes too long. */
    static final Scene[] ALL = {NEW, ONE, ELEVEN, FULL, QUIET, STUCK, DARK, MISREAD, BRIMFUL, ONE_LEFT, BIDDING, OVER,
        CLOSED, CANCELLED, RESTORED, RESTORED_OUT, EMPTY_OPEN, NO_TAKER, FULL_OPEN, FULL_OVER, CROWDED, RIVALS,
        LATE, TURNED_BACK};

    private Given() {
    }
}
