/** Promises 11 to 14: rings, those that are met, where they are met, and how soon. */
public final class RingsTest {
    private static final int NONE = LockOrders.NONE;

    private final Check check = new Check();

    public static void main(String[] args) {
        RingsTest test = new RingsTest();
        test.ofTwo();
        test.ofThreeAndFour();
        test.sharedLocks();
        test.whatIsNoRequest();
        test.tailsAndPairsAreNoRings();
        test.manyRequestsOfOneThread();
        test.foretoldButNotMet();
        test.statesAreCountedOnce();
        test.soonestIsTheLeastSum();
        test.dropTakesRingsAway();
        test.eachQuestionStandsAlone();
        test.check.end();
    }

    private void due(String what, LockOrders x, int rings, int ringsMet, int statesMet, int soonest) {
        check.due(what + ": rings()", x.rings(), rings);
        check.due(what + ": ringsMet()", x.ringsMet(), ringsMet);
        check.due(what + ": statesMet()", x.statesMet(), statesMet);
        check.due(what + ": soonest()", x.soonest(), soonest);
    }

    private void ofTwo() {
        due("crosswise", Rows.of("+0 +1", "+1 +0"), 1, 1, 1, 2);
        due("crosswise, threads 1 and 3", Rows.of("", "+4 +3 -3 -4", "", "+3 +4 -4 -3"), 1, 1, 1, 2);
        due("the same order", Rows.of("+0 +1", "+0 +1"), 0, 0, 0, NONE);
        due("a ring at the sixth actions", Rows.of("+2 -2 +2 -2 +0 +1", "+3 -3 +3 -3 +1 +0"), 1, 1, 1, 10);
        due("one thread alone", Rows.of("+0 +1 -0 +0 -1 +1"), 0, 0, 0, NONE);
    }

    private void ofThreeAndFour() {
        due("three around", Rows.of("+0 +1", "+1 +2", "+2 +0"), 1, 1, 1, 3);
        due("three around, the other way", Rows.of("+0 +2", "+1 +0", "+2 +1"), 1, 1, 1, 3);
        due("four around", Rows.of("+0 +1", "+1 +2", "+2 +3", "+3 +0"), 1, 1, 1, 4);
        due("four around, crossing over", Rows.of("+0 +2", "+1 +0", "+2 +3", "+3 +1"), 1, 1, 1, 4);
        due("three of four threads", Rows.of("+0 +1", "+4 -4", "+1 +2", "+2 +0"), 1, 1, 3, 3);
    }

    private void sharedLocks() {
        due("a gate before both", Rows.of("+4 +0 +1", "+4 +1 +0"), 0, 0, 0, NONE);
        due("a gate before one", Rows.of("+4 +0 +1", "+1 +0"), 1, 1, 1, 3);
        due("a gate given back before the request", Rows.of("+4 +0 -4 +1", "+4 +1 -4 +0"), 1, 1, 1, 6);
        due("a gate before two of three", Rows.of("+4 +0 +1", "+1 +2", "+4 +2 +0"), 0, 0, 0, NONE);
        due("a gate before two of four", Rows.of("+0 +1", "+4 +1 +2", "+2 +3", "+4 +3 +0"), 0, 0, 0, NONE);
    }

    private void whatIsNoRequest() {
        due("takes with nothing held", Rows.of("+0 -0 +1", "+1 -1 +0"), 0, 0, 0, NONE);
        due("a lock that was given is not held", Rows.of("+0 -0 +2 +1", "+1 +0"), 0, 0, 0, NONE);
        due("gives are no requests", Rows.of("+0 +1 -1", "+1 -1"), 0, 0, 0, NONE);
        due("a lock taken by the request itself is not held before it", Rows.of("+2 +0", "+3 +0"), 0, 0, 0, NONE);
    }

    private void tailsAndPairsAreNoRings() {
        due("a third that only waits", Rows.of("+0 +1", "+1 +0", "+2 +0"), 1, 1, 2, 2);
        due("a first that only waits", Rows.of("+2 +0", "+0 +1", "+1 +0"), 1, 1, 2, 2);
        LockOrders pairs = Rows.of("+0 +1 -1 -0", "+1 +0 -0 -1", "+2 +3 -3 -2", "+3 +2 -2 -3");
        // Each pair comes to 19 states, one of them in its ring: 19 + 19 - 1.
        due("two pairs", pairs, 2, 2, 37, 2);
    }

    private void manyRequestsOfOneThread() {
        due("the same wish twice", Rows.of("+0 +1 -1 +1", "+1 +0"), 2, 2, 2, 2);
        // Once one thread has had both locks, the other can't have had both before: two of the six
        // rings, with the second wish of thread 1 and a later one of thread 0, are out of reach.
        due("the same wish thrice on one side, twice on the other",
                Rows.of("+0 +1 -1 +1 -1 +1", "+1 +0 -0 +0"), 6, 4, 4, 2);
        // After "+0 +1" a wish for 2 may close a ring with a thread that wants 0 or 1.
        due("two held locks before a request", Rows.of("+0 +1 +2", "+2 +0", "+3 +1"), 1, 1, 2, 3);
    }

    private void foretoldButNotMet() {
        due("one of two rings has no way to it", Rows.of("+0 +1 -0 +0", "+1 +0 -1 +1"), 2, 1, 1, 2);
        due("the only ring has no way to it",
                Rows.of("+4 +0 +1 -0 -4 +0", "+4 +1 +0 -1 -4 +1"), 1, 0, 0, NONE);
    }

    private void statesAreCountedOnce() {
        LockOrders x = Rows.of("+0 +1", "+1 +0", "+2 -2 +2 -2 +2 -2");
        due("a third goes its own way", x, 1, 1, 7, 2);
        // Each pair comes to 6 states, one of them in its ring: 6 + 6 - 1.
        due("two rings in one state", Rows.of("+0 +1", "+1 +0", "+2 +3", "+3 +2"), 2, 2, 11, 2);
    }

    private void soonestIsTheLeastSum() {
        // The first met state in the order of states is (0, 0, 3, 3), but (1, 1, 0, 0) is sooner.
        LockOrders x = Rows.of("+0 +1", "+1 +0", "+4 -4 +2 +3", "+4 -4 +3 +2");
        check.due("soonest is not the first in order", x.soonest(), 2);
        LockOrders y = Rows.of("+4 -4 +0 +1", "+4 -4 +1 +0", "+2 +3", "+3 +2");
        check.due("soonest is not the last in order", y.soonest(), 2);
        check.due("soonest counts all threads", Rows.of("+0 +1", "+1 +2", "+2 +3", "+4 -4 +3 +0").soonest(), 6);
    }

    private void dropTakesRingsAway() {
        LockOrders x = Rows.of("+0 +1", "+1 +0");
        check.due("drop", x.drop(1), 1);
        due("without its second request", x, 0, 0, 0, NONE);
        check.due("another take", x.take(1, 2), 2);
        due("with another request", x, 0, 0, 0, NONE);
        check.due("give", x.give(1, 2), 3);
        check.due("the first request again", x.take(1, 0), 4);
        due("with its request later", x, 1, 1, 1, 4);
    }

    /** Asked first after a change, an answer must not be the one from before it. */
    private void eachQuestionStandsAlone() {
        check.due("first asked: rings()", Rows.of("+0 +1", "+1 +0").rings(), 1);
        check.due("first asked: ringsMet()", Rows.of("+0 +1", "+1 +0").ringsMet(), 1);
        check.due("first asked: statesMet()", Rows.of("+0 +1", "+1 +0").statesMet(), 1);
        check.due("first asked: soonest()", Rows.of("+0 +1", "+1 +0").soonest(), 2);
        LockOrders x = Rows.of("+0 +1", "+1 +0");
        check.due("ringsMet() before drop", x.ringsMet(), 1);
        x.drop(1);
        check.due("ringsMet() after drop", x.ringsMet(), 0);
        x.take(1, 0);
        check.due("statesMet() after take", x.statesMet(), 1);
        x.drop(0);
        check.due("statesMet() after drop", x.statesMet(), 0);
        x.take(0, 1);
        check.due("soonest() after take", x.soonest(), 2);
        x.drop(0);
        check.due("soonest() after drop", x.soonest(), NONE);
    }
}
