/**
 * The boundary cases of "Terms" where they speak of states, and of promises 5 to 10 and 15: a method for each
 * sentence, which its comment quotes.
 */
public final class BoundaryStatesTest {
    private static final int BAD = LockOrders.BAD_ARG;
    private static final int NONE = LockOrders.NONE;
    private static final int LEAST = Integer.MIN_VALUE;
    private static final int MOST = Integer.MAX_VALUE;
    private static final int[] NO_THREADS = {LEAST, -8, -2, -1, 4, 5, 7, 8, 32, MOST};
    private static final int[] NO_COUNTS = {LEAST, -4096, -512, -64, -8, -7, -1, 7, 8, 64, 512, 4096, 1 << 29, MOST};
    /** Each thread has its own lock, so none ever hinders another. */
    private static final String[] FOUR_APART = {
        "+0 -0 +0 -0 +0 -0", "+1 -1 +1 -1 +1 -1", "+2 -2 +2 -2 +2 -2", "+3 -3 +3 -3 +3 -3"};
    /** There are many ways to the end, but 1000003 divides their number. */
    private static final String[] REMAINDER_0 = {
        "+2 -2 +2 +1 -1 -2", "+1 +0 -0 +0 -0 -1", "+0 -0 +4 +1 -4 -1", "+0 +4 +3 -3 -4 -0"};
    /** Whoever takes lock 0 first keeps it: stuck are (0, 0, 0, 1), (0, 0, 1, 0), (0, 1, 0, 0), (1, 0, 0, 0). */
    private static final String[] ONE_OF_FOUR = {"+0", "+0", "+0", "+0"};
    /** Stuck are (0, 2), (1, 1) and (2, 0). */
    private static final String[] CROSSWISE = {"+0 +1", "+1 +0"};

    private final Check check = new Check();

    public static void main(String[] args) {
        BoundaryStatesTest test = new BoundaryStatesTest();
        test.inTheFirstStateAllHaveDoneNone();
        test.aFinishedThreadDoesNoMore();
        test.aGiveMayAlwaysGoOn();
        test.aTakeWaitsForAnotherThread();
        test.theFirstStateIsReached();
        test.stuckIfNoThreadMayGoOn();
        test.stuckIfSomeThreadIsNotFinished();
        test.statesAreOrderedByThread0First();
        test.statesAtLeastAndAtMost();
        test.stuckAtLeastAndMany();
        test.stuckAtTellsEachThread();
        test.stuckAtBadThread();
        test.stuckAtNoSuchState();
        test.stuckAtTestsTFirst();
        test.canFinishOneOrNone();
        test.reachedOneOrNone();
        test.reachedBadNumber();
        test.reachedIsInRangeUpTo6();
        test.waysAtLeast();
        test.waysAreARemainder();
        test.check.end();
    }

    /** "In the first state all have done none." */
    private void inTheFirstStateAllHaveDoneNone() {
        check.due("no actions: (0, 0, 0, 0)", new LockOrders().reached(0, 0, 0, 0), 1);
        LockOrders shut = Rows.of("+0", "+0 -0", "+0 -0");
        check.due("thread 1 has done one, thread 0 none", shut.reached(0, 1, 0, 0), 1);
        check.due("thread 0 has done its only one, it keeps the lock", shut.reached(1, 1, 0, 0), 0);
    }

    /** "A thread that has done all of its actions is FINISHED." */
    private void aFinishedThreadDoesNoMore() {
        LockOrders x = Rows.of("+0", "", "", "+1 -1");
        check.due("one action done", x.reached(1, 0, 0, 0), 1);
        check.due("a second that is not there", x.reached(2, 0, 0, 0), 0);
        check.due("two actions done by thread 3", x.reached(0, 0, 0, 2), 1);
        check.due("a third that is not there", x.reached(0, 0, 0, 3), 0);
        check.due("a first that is not there", x.reached(0, 1, 0, 0), 0);
        x.drop(3);
        check.due("a second that was dropped", x.reached(0, 0, 0, 2), 0);
        LockOrders full = Rows.of(FOUR_APART);
        check.due("all have done six", full.reached(6, 6, 6, 6), 1);
        check.due("no state is beyond the sixth actions", full.states(), 2401);
    }

    /** "MAY GO ON if its next action gives a lock". */
    private void aGiveMayAlwaysGoOn() {
        LockOrders x = Rows.of("+0 -0", "+0 -0", "+0 -0", "+0 -0");
        check.due("a give while three others wait for the lock", x.reached(2, 0, 0, 0), 1);
        check.due("nothing is stuck", x.stuck(), 0);
    }

    /** "or takes one that no other thread holds". */
    private void aTakeWaitsForAnotherThread() {
        for (int holder = 0; holder <= 3; holder++) {
            for (int l = 0; l <= 4; l++) {
                int waiter = (holder + 1) % 4;
                LockOrders x = new LockOrders();
                Rows.put(x, holder, "+" + l + " -" + l);
                Rows.put(x, waiter, "+" + l);
                String what = "lock " + l + ", thread " + holder + " before thread " + waiter;
                check.due(what + ": held", reached(x, holder, 1, waiter, 1), 0);
                check.due(what + ": given", reached(x, holder, 2, waiter, 1), 1);
                check.due(what + ": untouched", reached(x, holder, 0, waiter, 1), 1);
            }
        }
        LockOrders own = Rows.of("+0 -0 +0 +1");
        check.due("its own locks are no hindrance", own.states(), 5);
    }

    private static int reached(LockOrders x, int t, int done, int u, int doneByU) {
        int[] all = new int[4];
        all[t] = done;
        all[u] = doneByU;
        return x.reached(all[0], all[1], all[2], all[3]);
    }

    /** "The states that come about so are REACHED, the first one among them." */
    private void theFirstStateIsReached() {
        check.due("a new object has one reached state", new LockOrders().states(), 1);
        check.due("and a full one has the first too", Rows.of(FOUR_APART).reached(0, 0, 0, 0), 1);
        LockOrders gap = Rows.of("+0 +1 -0 -1", "+1 +0 -1 -0");
        check.due("each alone may stand at 3, but no way leads there", gap.reached(3, 3, 0, 0), 0);
    }

    /** "A reached state is STUCK if no thread may go on": not if one may. */
    private void stuckIfNoThreadMayGoOn() {
        LockOrders x = Rows.of("+0 +1 -1 -0", "+1 +0 -0 -1", "", "+4 -4");
        check.due("stuck only when thread 3 is finished too", x.stuck(), 1);
        check.due("thread 3 has then done two", x.stuckAt(0, 3), 2);
        LockOrders y = Rows.of("+4 -4", "+0 +1 -1 -0", "+1 +0 -0 -1");
        check.due("stuck only when thread 0 is finished too", y.stuck(), 1);
        check.due("thread 0 has then done two", y.stuckAt(0, 0), 2);
        LockOrders unreached = Rows.of("+4 +0 +1 -1 -0 -4", "+4 +1 +0 -0 -1 -4");
        check.due("a state that is not reached is not stuck", unreached.stuck(), 0);
    }

    /** "and some thread is not finished". */
    private void stuckIfSomeThreadIsNotFinished() {
        check.due("empty: the only state is the end", new LockOrders().stuck(), 0);
        check.due("all finished and holding locks", Rows.of("+0", "+1", "+2", "+3").stuck(), 0);
        check.due("all finished after six", Rows.of(FOUR_APART).stuck(), 0);
        LockOrders three = Rows.of("+0", "+1", "+2", "+2");
        check.due("three finished, the fourth not: both ways round", three.stuck(), 2);
    }

    /** "STATES ARE ORDERED by how many actions thread 0 has done, the lesser number first, then thread 1, ..". */
    private void statesAreOrderedByThread0First() {
        LockOrders x = Rows.of(ONE_OF_FOUR);
        for (int i = 0; i < 4; i++) {
            for (int t = 0; t < 4; t++) {
                check.due("one of four: stuckAt(" + i + ", " + t + ")", x.stuckAt(i, t), t == 3 - i ? 1 : 0);
            }
        }
        // Thread 0's number weighs more than all the others' together, and 6 more than 5.
        inOrder("rows of six", Rows.of("+0 -0 +0 -0 +0 +1", "+1 -1 +1 -1 +1 +0"),
                new int[][] {{0, 6}, {2, 6}, {4, 6}, {5, 5}, {6, 0}, {6, 2}, {6, 4}});
        inOrder("four around at the sixth actions",
                Rows.of("+4 -4 +4 -4 +0 +1", "+4 -4 +4 -4 +1 +2", "+4 -4 +4 -4 +2 +3", "+4 -4 +4 -4 +3 +0"),
                new int[][] {{4, 5, 5, 6}, {4, 6, 4, 6}, {5, 5, 5, 5}, {5, 5, 6, 4}, {5, 6, 4, 5}, {6, 4, 5, 5},
                    {6, 4, 6, 4}});
    }

    private void inOrder(String what, LockOrders x, int[][] want) {
        check.due(what + ": stuck()", x.stuck(), want.length);
        for (int i = 0; i < want.length; i++) {
            for (int t = 0; t < want[i].length; t++) {
                check.due(what + ": stuckAt(" + i + ", " + t + ")", x.stuckAt(i, t), want[i][t]);
            }
        }
    }

    /** Promise 5: "How many states are reached": from the first alone up to all that there can be. */
    private void statesAtLeastAndAtMost() {
        check.due("no actions", new LockOrders().states(), 1);
        for (int t = 0; t <= 3; t++) {
            LockOrders x = new LockOrders();
            x.take(t, 4);
            check.due("one action of thread " + t, x.states(), 2);
            x.drop(t);
            check.due("none again", x.states(), 1);
        }
        check.due("four full rows apart", Rows.of(FOUR_APART).states(), 2401);
        String all = "+0 +1 +2 +3 +4 -4";
        check.due("four full rows that wait for one lock", Rows.of(all, all, all, all).states(), 1 + 4 * 6);
    }

    /** Promise 6: "How many states are stuck": none, one, many. */
    private void stuckAtLeastAndMany() {
        check.due("no actions", new LockOrders().stuck(), 0);
        check.due("one thread alone", Rows.of("+0 +1 +2 +3 +4 -0").stuck(), 0);
        check.due("one", Rows.of("+0 +1 -1 -0", "+1 +0 -0 -1").stuck(), 1);
        check.due("one of four", Rows.of(ONE_OF_FOUR).stuck(), 4);
        LockOrders many = Rows.of("+0 +1 -1 +2 -2 +3", "+1 +2 -2 +3 -3 +0", "+2 +3 -3 +0 -0 +1", "+3 +0 -0 +1 -1 +2");
        check.due("many", many.stuck(), 71);
        check.due("the first of many", many.stuckAt(0, 1), 6);
        check.due("the last of many", many.stuckAt(70, 0), 6);
        check.due("one after the last of many", many.stuckAt(71, 0), NONE);
    }

    /** Promise 7: "How many actions thread t has done in the stuck state with i others before it". */
    private void stuckAtTellsEachThread() {
        inOrder("crosswise", Rows.of(CROSSWISE), new int[][] {{0, 2, 0, 0}, {1, 1, 0, 0}, {2, 0, 0, 0}});
        inOrder("crosswise, the last threads", Rows.of("", "", "+3 +4", "+4 +3"),
                new int[][] {{0, 0, 0, 2}, {0, 0, 1, 1}, {0, 0, 2, 0}});
    }

    /** Promise 7: "BAD_ARG if t is not 0 to 3". */
    private void stuckAtBadThread() {
        LockOrders x = Rows.of(ONE_OF_FOUR);
        for (int t : NO_THREADS) {
            check.due("stuckAt(0, " + t + ")", x.stuckAt(0, t), BAD);
        }
        check.due("stuckAt(0, 0)", x.stuckAt(0, 0), 0);
        check.due("stuckAt(0, 3)", x.stuckAt(0, 3), 1);
    }

    /** Promise 7: "NONE if there is no such state". */
    private void stuckAtNoSuchState() {
        int[] places = {LEAST, LEAST + 1, -4096, -2, -1, 0, 1, 2, 3, 4, 5, 2401, 4095, 4096, MOST};
        LockOrders[] objects = {new LockOrders(), Rows.of("+0 +1 -1 -0", "+1 +0 -0 -1"), Rows.of(CROSSWISE),
            Rows.of(ONE_OF_FOUR)};
        int[] numbers = {0, 1, 3, 4};
        for (int n = 0; n < objects.length; n++) {
            for (int i : places) {
                for (int t = 0; t <= 3; t++) {
                    boolean isThere = i >= 0 && i < numbers[n];
                    boolean isNone = objects[n].stuckAt(i, t) == NONE;
                    check.dueTrue(numbers[n] + " are stuck: stuckAt(" + i + ", " + t + ")", isNone != isThere);
                }
            }
        }
        LockOrders x = Rows.of(CROSSWISE);
        check.due("the last", x.stuckAt(2, 0), 2);
        x.drop(0);
        check.due("after a drop two are stuck", x.stuckAt(1, 0), 1);
        check.due("after a drop there is no third", x.stuckAt(2, 0), NONE);
    }

    /** Promise 15: "stuckAt tests t first: BAD_ARG if it is not 0 to 3, whatever i is." */
    private void stuckAtTestsTFirst() {
        LockOrders none = new LockOrders();
        LockOrders some = Rows.of(CROSSWISE);
        for (int i : new int[] {LEAST, -1, 0, 2, 3, 4, 99, 4096, MOST}) {
            for (int t : NO_THREADS) {
                check.due("none stuck: stuckAt(" + i + ", " + t + ")", none.stuckAt(i, t), BAD);
                check.due("three stuck: stuckAt(" + i + ", " + t + ")", some.stuckAt(i, t), BAD);
            }
        }
    }

    /** Promise 8: "1 if the state in which all threads are finished is reached, else 0." */
    private void canFinishOneOrNone() {
        check.due("no actions: the first state is the end", new LockOrders().canFinish(), 1);
        check.due("four full rows", Rows.of(FOUR_APART).canFinish(), 1);
        check.due("one keeps what none else wants later", Rows.of("+0", "+0 -0").canFinish(), 1);
        check.due("two keep the same", Rows.of("+0", "", "", "+0").canFinish(), 0);
        check.due("some are stuck, but an end is there too", Rows.of("+0 +1 -1 -0", "+1 +0 -0 -1").canFinish(), 1);
        LockOrders x = Rows.of(CROSSWISE);
        check.due("crosswise", x.canFinish(), 0);
        x.drop(0);
        check.due("crosswise without the last action of thread 0", x.canFinish(), 0);
        x.drop(1);
        check.due("crosswise without both last actions", x.canFinish(), 1);
        check.due("the remainder of the ways is 0, but there are ways", Rows.of(REMAINDER_0).canFinish(), 1);
    }

    /** Promise 9: "1 if the state .. is reached, else 0": each argument is the number of its own thread. */
    private void reachedOneOrNone() {
        LockOrders x = Rows.of("+0", "+1 -1", "+2 -2 +2", "+3 -3 +3 -3");
        for (int s = 0; s < 7 * 7 * 7; s++) {
            int b = s / 49;
            int c = s / 7 % 7;
            int d = s % 7;
            int want = b <= 2 && c <= 3 && d <= 4 ? 1 : 0;
            check.due("reached(1, " + b + ", " + c + ", " + d + ")", x.reached(1, b, c, d), want);
        }
        check.due("reached(2, 0, 0, 0)", x.reached(2, 0, 0, 0), 0);
        check.due("reached(4, 3, 2, 1)", x.reached(4, 3, 2, 1), 0);
        check.due("reached(1, 2, 3, 4)", x.reached(1, 2, 3, 4), 1);
        check.due("the remainder of the ways there is 0", Rows.of(REMAINDER_0).reached(6, 6, 6, 6), 1);
    }

    /** Promise 9: "BAD_ARG if one of them is not 0 to 6." */
    private void reachedBadNumber() {
        LockOrders[] objects = {new LockOrders(), Rows.of(FOUR_APART)};
        for (LockOrders x : objects) {
            for (int bad : NO_COUNTS) {
                check.due("reached(" + bad + ", 0, 0, 0)", x.reached(bad, 0, 0, 0), BAD);
                check.due("reached(0, " + bad + ", 0, 0)", x.reached(0, bad, 0, 0), BAD);
                check.due("reached(0, 0, " + bad + ", 0)", x.reached(0, 0, bad, 0), BAD);
                check.due("reached(0, 0, 0, " + bad + ")", x.reached(0, 0, 0, bad), BAD);
                check.due("reached(6, 6, 6, " + bad + ")", x.reached(6, 6, 6, bad), BAD);
                check.due("reached(1, " + bad + ", -1, 6)", x.reached(1, bad, -1, 6), BAD);
            }
        }
    }

    /** Promise 9: "0 to 6" is in range for every thread, however few actions it has. */
    private void reachedIsInRangeUpTo6() {
        LockOrders empty = new LockOrders();
        LockOrders full = Rows.of(FOUR_APART);
        for (int n = 0; n <= 6; n++) {
            check.due("empty: reached(" + n + ", 0, 0, 0)", empty.reached(n, 0, 0, 0), n == 0 ? 1 : 0);
            check.due("empty: reached(0, " + n + ", 0, 0)", empty.reached(0, n, 0, 0), n == 0 ? 1 : 0);
            check.due("empty: reached(0, 0, " + n + ", 0)", empty.reached(0, 0, n, 0), n == 0 ? 1 : 0);
            check.due("empty: reached(0, 0, 0, " + n + ")", empty.reached(0, 0, 0, n), n == 0 ? 1 : 0);
            check.due("full: reached(" + n + ", 6, 0, 6)", full.reached(n, 6, 0, 6), 1);
            check.due("full: reached(6, " + n + ", 6, 0)", full.reached(6, n, 6, 0), 1);
            check.due("full: reached(0, 6, " + n + ", 6)", full.reached(0, 6, n, 6), 1);
            check.due("full: reached(6, 0, 6, " + n + ")", full.reached(6, 0, 6, n), 1);
        }
    }

    /** Promise 10: "In how many ways .. the threads come from the first state to the one where all are finished". */
    private void waysAtLeast() {
        check.due("no actions: one way, doing nothing", new LockOrders().ways(), 1);
        check.due("one row of six", Rows.of("+0 -0 +0 -0 +0 -0").ways(), 1);
        check.due("no way", Rows.of("+0", "+0").ways(), 0);
        check.due("only one may come first", Rows.of("+0", "+0 -0").ways(), 1);
        check.due("any of two may come first", Rows.of("+0", "+1").ways(), 2);
        LockOrders x = Rows.of("+0", "+1");
        check.due("asked once", x.ways(), 2);
        check.due("asked once more", x.ways(), 2);
        x.drop(1);
        check.due("after a drop", x.ways(), 1);
        x.take(1, 0);
        check.due("after a take of the lock that the other keeps", x.ways(), 0);
    }

    /** Promise 10: "as a remainder modulo 1000003": below it, above it, far above it, and a multiple of it. */
    private void waysAreARemainder() {
        // 15! / (6! 6! 3!) = 420420 is below the modulus, 16! / (6! 6! 4!) = 1681680 above it.
        check.due("420420 ways", Rows.of(FOUR_APART[0], FOUR_APART[1], "+2 -2 +2").ways(), 420420);
        check.due("1681680 ways", Rows.of(FOUR_APART[0], FOUR_APART[1], "+2 -2 +2 -2").ways(), 1681680 - 1000003);
        // 24! / 6!^4, which no int can hold.
        check.due("2308743493056 ways", Rows.of(FOUR_APART).ways(), (int) (2308743493056L % 1000003L));
        check.due("a multiple of 1000003 ways", Rows.of(REMAINDER_0).ways(), 0);
    }
}
