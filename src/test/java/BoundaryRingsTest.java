/**
 * The boundary cases of "Terms" where they speak of requests and rings, and of promises 11 to 14: a method for
 * each sentence, which its comment quotes.
 */
public final class BoundaryRingsTest {
    private static final int NONE = LockOrders.NONE;
    /** Each thread keeps its own lock and wants each of the three others. */
    private static final String[] EACH_WANTS_ALL = {
        "+0 +1 -1 +2 -2 +3", "+1 +2 -2 +3 -3 +0", "+2 +3 -3 +0 -0 +1", "+3 +0 -0 +1 -1 +2"};
    /** A ring of four whose requests are the sixth actions. */
    private static final String[] FOUR_LATE = {
        "+4 -4 +4 -4 +0 +1", "+4 -4 +4 -4 +1 +2", "+4 -4 +4 -4 +2 +3", "+4 -4 +4 -4 +3 +0"};
    /** Whoever gives lock 4 first keeps a lock that the other wants before it can come to the only ring. */
    private static final String[] NEVER_MET = {"+4 +0 +1 -0 -4 +0", "+4 +1 +0 -1 -4 +1"};

    private final Check check = new Check();

    public static void main(String[] args) {
        BoundaryRingsTest test = new BoundaryRingsTest();
        test.aRequestTakes();
        test.aRequestHoldsSomeLockBefore();
        test.twoToFourRequests();
        test.requestsOfDifferentThreads();
        test.aRingIsASet();
        test.theOrderGoesThroughAll();
        test.theLockIsHeldBeforeTheNext();
        test.noLockIsHeldBeforeTwo();
        test.metIfEachIsTheNextAction();
        test.ringsNoneAndMany();
        test.ringsAreForetoldUnreached();
        test.ringsMetNoneSomeAll();
        test.statesMetCountEachStateOnce();
        test.statesMetNone();
        test.soonestLeastAndMost();
        test.soonestIsTheLeastSum();
        test.soonestNone();
        test.check.end();
    }

    private void due(String what, LockOrders x, int rings, int ringsMet, int statesMet, int soonest) {
        check.due(what + ": rings()", x.rings(), rings);
        check.due(what + ": ringsMet()", x.ringsMet(), ringsMet);
        check.due(what + ": statesMet()", x.statesMet(), statesMet);
        check.due(what + ": soonest()", x.soonest(), soonest);
    }

    /** "A REQUEST is an action of a thread that takes a lock": a give is none. */
    private void aRequestTakes() {
        check.due("a give of what the other holds", Rows.of("+0 +1 -1", "+1 +2 +3 -1").rings(), 0);
        check.due("a dropped take", dropped("+0 +1", "+1 +0").rings(), 0);
        check.due("a give in the place of a dropped take", dropped("+0 +1", "+1 +0", 1).rings(), 0);
        check.due("the sixth action is one", Rows.of("+2 -2 +2 -2 +0 +1", "+1 +0").rings(), 1);
    }

    private static LockOrders dropped(String first, String second) {
        LockOrders x = Rows.of(first, second);
        x.drop(1);
        return x;
    }

    private static LockOrders dropped(String first, String second, int given) {
        LockOrders x = dropped(first, second);
        x.give(1, given);
        return x;
    }

    /** "by a thread that holds some lock before it": not by one that holds none, or none any more. */
    private void aRequestHoldsSomeLockBefore() {
        check.due("first actions", Rows.of("+0", "+1").rings(), 0);
        check.due("all given before", Rows.of("+0 -0 +1", "+1 +0").rings(), 0);
        check.due("all given before, both", Rows.of("+0 -0 +1 -1 +0", "+1 -1 +0 -0 +1").rings(), 0);
        check.due("one of two given before", Rows.of("+0 +2 -2 +1", "+1 +0").rings(), 1);
        check.due("the wrong one of two given before", Rows.of("+0 +2 -0 +1", "+1 +0").rings(), 0);
    }

    /** "A RING is a set of two to four requests". */
    private void twoToFourRequests() {
        check.due("one thread alone makes none", Rows.of("+0 +1 -0 +0 -1 +1").rings(), 0);
        check.due("two", Rows.of("+0 +1", "+1 +0").rings(), 1);
        check.due("three", Rows.of("+0 +1", "+1 +2", "+2 +0").rings(), 1);
        check.due("four", Rows.of("+0 +1", "+1 +2", "+2 +3", "+3 +0").rings(), 1);
        String[][] pairs = {{"+0 +4", "+4 +0", "", ""}, {"+0 +4", "", "+4 +0", ""}, {"+0 +4", "", "", "+4 +0"},
            {"", "+0 +4", "+4 +0", ""}, {"", "+0 +4", "", "+4 +0"}, {"", "", "+0 +4", "+4 +0"}};
        for (String[] pair : pairs) {
            due("two: " + String.join(", ", pair), Rows.of(pair), 1, 1, 1, 2);
        }
        for (int without = 0; without <= 3; without++) {
            String[] rows = new String[4];
            int n = 0;
            for (int t = 0; t <= 3; t++) {
                rows[t] = t == without ? "" : new String[] {"+2 +3", "+3 +4", "+4 +2"}[n++];
            }
            due("three without thread " + without, Rows.of(rows), 1, 1, 1, 3);
        }
    }

    /** "requests of different threads": two of one thread are in no ring together. */
    private void requestsOfDifferentThreads() {
        check.due("one thread wants crosswise in turn", Rows.of("+0 +1 -0 +0").rings(), 0);
        // With two requests of thread 0 in one set there would be more than the two rings of two.
        check.due("two requests of thread 0, one of thread 1", Rows.of("+0 +1 -1 +1", "+1 +0").rings(), 2);
        check.due("three of each", Rows.of("+0 +1 -1 +1 -1 +1", "+1 +0 -0 +0 -0 +0").rings(), 9);
    }

    /** "A RING is a set": whichever request begins the order, it is the same ring. */
    private void aRingIsASet() {
        check.due("two, from two beginnings", Rows.of("+1 +0", "+0 +1").rings(), 1);
        check.due("three, from three beginnings", Rows.of("+0 +2", "+1 +0", "+2 +1").rings(), 1);
        check.due("four, from four beginnings", Rows.of("+0 +2", "+1 +0", "+2 +3", "+3 +1").rings(), 1);
        // Six rings of two, two ways around for each three of the threads, six ways around for all four.
        check.due("all that four threads can form", Rows.of(EACH_WANTS_ALL).rings(), 6 + 4 * 2 + 6);
    }

    /** "an order r, s, .., z exists": it goes through all of the set and comes back to r. */
    private void theOrderGoesThroughAll() {
        check.due("a chain that does not close", Rows.of("+0 +1", "+1 +2", "+2 +3").rings(), 0);
        check.due("a chain of four that does not close", Rows.of("+0 +1", "+1 +2", "+2 +3", "+3 +4").rings(), 0);
        check.due("a ring of two with a third waiting", Rows.of("+0 +1", "+1 +0", "+2 +0").rings(), 1);
        check.due("a ring of three with a fourth waiting", Rows.of("+3 +0", "+0 +1", "+1 +2", "+2 +0").rings(), 1);
        check.due("two rings of two are no ring of four", Rows.of("+0 +1", "+1 +0", "+2 +3", "+3 +2").rings(), 2);
        check.due("all four want what thread 0 holds", Rows.of("+0 +4", "+1 +0", "+2 +0", "+3 +0").rings(), 0);
    }

    /** "the lock of r is held before s by the thread of s": before it, not by it nor after it. */
    private void theLockIsHeldBeforeTheNext() {
        check.due("taken by the request itself", Rows.of("+0 +1", "+2 +1").rings(), 0);
        check.due("taken only after the request", Rows.of("+0 +1", "+2 +0 +1").rings(), 0);
        check.due("given before the request", Rows.of("+0 +1", "+2 +1 -1 +0").rings(), 0);
        check.due("held among others", Rows.of("+0 +1", "+2 +3 +1 +4 +0").rings(), 1);
        check.due("held by a thread that makes no request", Rows.of("+0 +1", "+1", "+0").rings(), 0);
    }

    /** "and no lock is held before two of the requests". */
    private void noLockIsHeldBeforeTwo() {
        for (int gate = 2; gate <= 4; gate++) {
            String g = "+" + gate + " ";
            check.due("before both: " + g, Rows.of(g + "+0 +1", g + "+1 +0").rings(), 0);
            check.due("before one: " + g, Rows.of(g + "+0 +1", "+1 +0").rings(), 1);
        }
        check.due("before none any more", Rows.of("+4 +0 -4 +1", "+4 +1 -4 +0").rings(), 1);
        check.due("before one any more", Rows.of("+4 +0 -4 +1", "+4 +1 +0").rings(), 1);
        check.due("before two of three", Rows.of("+4 +0 +1", "+1 +2", "+4 +2 +0").rings(), 0);
        check.due("before the first and last of four", Rows.of("+4 +0 +1", "+1 +2", "+2 +3", "+4 +3 +0").rings(), 0);
        check.due("before the middle two of four", Rows.of("+0 +1", "+4 +1 +2", "+4 +2 +3", "+3 +0").rings(), 0);
        check.due("a wanted lock held twice", Rows.of("+0 +1", "+1 +0", "+1 +0").rings(), 2);
        // Lock 1 is held before requests of threads 1 and 2: all three close, but only pairs are rings.
        check.due("a wanted lock held by two of three", Rows.of("+0 +1", "+1 +2", "+2 +1 +0").rings(), 2);
        check.due("before two, but one is outside the ring", Rows.of("+4 +0 +1", "+1 +0", "+4 +2 +3").rings(), 1);
    }

    /** "A ring is MET in a state if each of its requests is the next action of its thread." */
    private void metIfEachIsTheNextAction() {
        due("in one state only", Rows.of("+0 +1 -1 -0", "+1 +0 -0 -1"), 1, 1, 1, 2);
        due("whatever a thread outside it does", Rows.of("+0 +1", "+1 +0", "", "+4 -4 +4 -4 +4 -4"), 1, 1, 7, 2);
        due("with all four at their sixth actions", Rows.of(FOUR_LATE), 1, 1, 1, 20);
    }

    /** Promise 11: "How many rings there are": none, one, many. */
    private void ringsNoneAndMany() {
        check.due("no actions", new LockOrders().rings(), 0);
        check.due("full rows, each thread in the same order",
                Rows.of("+0 +1 +2 +3 +4 -4", "+0 +1 +2 +3 +4 -4", "+0 +1 +2 +3 +4 -4", "+0 +1 +2 +3 +4 -4").rings(), 0);
        check.due("full rows, one ring", Rows.of(FOUR_LATE).rings(), 1);
        // Each of threads 0 and 1 wants lock 1 thrice while it holds 0, each of 2 and 3 the other way round.
        String over = "+0 +1 -1 +1 -1 +1";
        String back = "+1 +0 -0 +0 -0 +0";
        check.due("full rows, four pairs with nine each", Rows.of(over, over, back, back).rings(), 4 * 9);
    }

    /** Promise 11 counts rings "foretold from each thread alone", whether they are met or not. */
    private void ringsAreForetoldUnreached() {
        check.due("a ring to which no way leads", Rows.of(NEVER_MET).rings(), 1);
        check.due("two rings, one of them without a way to it", Rows.of("+0 +1 -0 +0", "+1 +0 -1 +1").rings(), 2);
    }

    /** Promise 12: "How many rings are met in some reached state": none, some, all. */
    private void ringsMetNoneSomeAll() {
        check.due("no actions", new LockOrders().ringsMet(), 0);
        check.due("none of one", Rows.of(NEVER_MET).ringsMet(), 0);
        check.due("one of two", Rows.of("+0 +1 -0 +0", "+1 +0 -1 +1").ringsMet(), 1);
        check.due("eleven of twenty", Rows.of(EACH_WANTS_ALL).ringsMet(), 11);
        check.due("two of two", Rows.of("+0 +1 -1 +1", "+1 +0").ringsMet(), 2);
        check.due("one, met in seven states", Rows.of("+0 +1", "+1 +0", "+4 -4 +4 -4 +4 -4").ringsMet(), 1);
        LockOrders x = Rows.of("+0 +1", "+1 +0");
        check.due("one, asked once", x.ringsMet(), 1);
        check.due("one, asked once more", x.ringsMet(), 1);
        x.drop(1);
        check.due("none after a drop", x.ringsMet(), 0);
    }

    /** Promise 13: "How many reached states there are in which some ring is met": two rings in one count once. */
    private void statesMetCountEachStateOnce() {
        // Each pair comes to six states, one of them in its ring: 6 + 6 - 1.
        check.due("two rings in one state", Rows.of("+0 +1", "+1 +0", "+2 +3", "+3 +2").statesMet(), 11);
        check.due("one ring in seven states", Rows.of("+0 +1", "+1 +0", "+4 -4 +4 -4 +4 -4").statesMet(), 7);
        check.due("one ring in forty-nine states",
                Rows.of("+0 +1", "+1 +0", "+4 -4 +4 -4 +4 -4", "+3 -3 +3 -3 +3 -3").statesMet(), 49);
        check.due("two rings in two states", Rows.of("+0 +1 -1 +1", "+1 +0").statesMet(), 2);
    }

    /** Promise 13: only "reached states" count. */
    private void statesMetNone() {
        check.due("no actions", new LockOrders().statesMet(), 0);
        check.due("no ring", Rows.of("+0 +1", "+0 +1").statesMet(), 0);
        check.due("a ring to which no way leads", Rows.of(NEVER_MET).statesMet(), 0);
        check.due("one of two rings has no way to it", Rows.of("+0 +1 -0 +0", "+1 +0 -1 +1").statesMet(), 1);
    }

    /** Promise 14: "How many actions are done in the first reached states, by that number": from 2 to 20. */
    private void soonestLeastAndMost() {
        check.due("the least that can be", Rows.of("+0 +1", "+1 +0").soonest(), 2);
        check.due("the most that can be", Rows.of(FOUR_LATE).soonest(), 20);
    }

    /** Promise 14: "the least sum over all threads". */
    private void soonestIsTheLeastSum() {
        // First in the order of states is (0, 0, 3, 3), last is (2, 0, 3, 3): neither has the least sum.
        check.due("neither first nor last in order",
                Rows.of("+0 +1", "+1 +0", "+4 -4 +2 +3", "+4 -4 +3 +2").soonest(), 2);
        check.due("first in order", Rows.of("+4 -4 +0 +1", "+4 -4 +1 +0", "+2 +3", "+3 +2").soonest(), 2);
        check.due("a ring of three is sooner than one of two",
                Rows.of("+0 +1 -1 -0 +0 +3", "+1 +2 -2 -1 +3 +0", "+2 +0").soonest(), 3);
        check.due("every thread counts", Rows.of("+0 +1", "+1 +2", "+2 +3", "+4 -4 +3 +0").soonest(), 6);
    }

    /** Promise 14: "NONE if there is none." */
    private void soonestNone() {
        check.due("no actions", new LockOrders().soonest(), NONE);
        check.due("no ring", Rows.of("+0 +1", "+0 +1").soonest(), NONE);
        check.due("stuck, but no ring", Rows.of("+0", "+0").soonest(), NONE);
        check.due("a ring to which no way leads", Rows.of(NEVER_MET).soonest(), NONE);
        LockOrders x = Rows.of("+0 +1", "+1 +0");
        check.due("a ring", x.soonest(), 2);
        x.drop(0);
        check.due("no ring any more", x.soonest(), NONE);
    }
}
