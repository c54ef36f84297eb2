/** Promises 1 to 4: a new object, take, give and drop. */
public final class ActionsTest {
    private static final int BAD = LockOrders.BAD_ARG;
    private static final int FULL = LockOrders.FULL;
    private static final int NONE = LockOrders.NONE;
    private static final int[] NO_THREADS = {-1, 4, 5, 32, Integer.MIN_VALUE, Integer.MAX_VALUE};
    private static final int[] NO_LOCKS = {-1, 5, 6, 31, 32, Integer.MIN_VALUE, Integer.MAX_VALUE};

    public static void main(String[] args) {
        Check check = new Check();
        newObject(check);
        objectsAreApart(check);
        takeCounts(check);
        takeRefuses(check);
        takeTestsInOrder(check);
        giveCounts(check);
        giveRefuses(check);
        giveTestsInOrder(check);
        dropTakesTheLast(check);
        dropRefuses(check);
        refusedCallsChangeNothing(check);
        check.end();
    }

    private static void newObject(Check check) {
        LockOrders x = new LockOrders();
        for (int t = 0; t < 4; t++) {
            check.due("new: drop(" + t + ")", x.drop(t), NONE);
            for (int l = 0; l < 5; l++) {
                check.due("new: give(" + t + ", " + l + ")", x.give(t, l), NONE);
            }
        }
        check.due("new: states()", x.states(), 1);
        check.due("new: stuck()", x.stuck(), 0);
        check.due("new: stuckAt(0, 0)", x.stuckAt(0, 0), NONE);
        check.due("new: canFinish()", x.canFinish(), 1);
        check.due("new: reached(0, 0, 0, 0)", x.reached(0, 0, 0, 0), 1);
        check.due("new: reached(0, 0, 0, 1)", x.reached(0, 0, 0, 1), 0);
        check.due("new: ways()", x.ways(), 1);
        check.due("new: rings()", x.rings(), 0);
        check.due("new: ringsMet()", x.ringsMet(), 0);
        check.due("new: statesMet()", x.statesMet(), 0);
        check.due("new: soonest()", x.soonest(), NONE);
    }

    private static void objectsAreApart(Check check) {
        LockOrders x = new LockOrders();
        LockOrders y = new LockOrders();
        check.due("apart: x take", x.take(0, 0), 1);
        check.due("apart: y drop", y.drop(0), NONE);
        check.due("apart: y take", y.take(0, 0), 1);
        check.due("apart: x states", x.states(), 2);
    }

    private static void takeCounts(Check check) {
        for (int t = 0; t < 4; t++) {
            LockOrders x = new LockOrders();
            for (int l = 4; l >= 0; l--) {
                check.due("take(" + t + ", " + l + ")", x.take(t, l), 5 - l);
            }
            for (int u = 0; u < 4; u++) {
                check.due("count of " + u + " after takes by " + t, x.drop(u), u == t ? 4 : NONE);
            }
        }
        LockOrders x = Rows.of("+0", "+0", "+0");
        check.due("a lock in another thread's row is no hindrance", x.take(3, 0), 1);
        x = Rows.of("+2 -2 +2 -2");
        check.due("a lock that was given may be taken again", x.take(0, 2), 5);
        x = Rows.of("+0 +1 +2 +3 +4");
        check.due("a sixth action", x.give(0, 0), 6);
    }

    private static void takeRefuses(Check check) {
        LockOrders x = Rows.of("+0 +1 -0");
        for (int t : NO_THREADS) {
            check.due("take(" + t + ", 0)", x.take(t, 0), BAD);
        }
        for (int l : NO_LOCKS) {
            check.due("take(0, " + l + ")", x.take(0, l), BAD);
        }
        check.due("take of a held lock", x.take(0, 1), NONE);
        check.due("take of a lock given since", x.take(0, 0), 4);
        check.due("take of a lock taken again", x.take(0, 0), NONE);
    }

    private static void takeTestsInOrder(Check check) {
        LockOrders x = Rows.of("+0 +1 +2 +3 +4 -4");
        check.due("full: take(0, 5)", x.take(0, 5), BAD);
        check.due("full: take(0, -1)", x.take(0, -1), BAD);
        check.due("full: take(4, 0)", x.take(4, 0), BAD);
        check.due("full: take of a held lock", x.take(0, 0), FULL);
        check.due("full: take of a free lock", x.take(0, 4), FULL);
        check.due("another thread is not full", x.take(1, 0), 1);
    }

    private static void giveCounts(Check check) {
        for (int t = 0; t < 4; t++) {
            LockOrders x = new LockOrders();
            Rows.put(x, t, "+4 +0 +2");
            check.due("first give by " + t, x.give(t, 0), 4);
            check.due("second give by " + t, x.give(t, 4), 5);
            check.due("third give by " + t, x.give(t, 2), 6);
        }
    }

    private static void giveRefuses(Check check) {
        LockOrders x = Rows.of("+0 +1 -0", "+3");
        for (int t : NO_THREADS) {
            check.due("give(" + t + ", 1)", x.give(t, 1), BAD);
        }
        for (int l : NO_LOCKS) {
            check.due("give(0, " + l + ")", x.give(0, l), BAD);
        }
        check.due("give of a lock given before", x.give(0, 0), NONE);
        check.due("give of a lock never taken", x.give(0, 2), NONE);
        check.due("give of a lock that only another thread holds", x.give(0, 3), NONE);
        check.due("give of a held lock", x.give(0, 1), 4);
        check.due("give of it once more", x.give(0, 1), NONE);
    }

    private static void giveTestsInOrder(Check check) {
        LockOrders x = Rows.of("+0 +1 +2 +3 +4 -4");
        check.due("full: give(0, 5)", x.give(0, 5), BAD);
        check.due("full: give(0, -1)", x.give(0, -1), BAD);
        check.due("full: give(-1, 0)", x.give(-1, 0), BAD);
        check.due("full: give of a held lock", x.give(0, 0), FULL);
        check.due("full: give of a lock not held", x.give(0, 4), FULL);
    }

    private static void dropTakesTheLast(Check check) {
        LockOrders x = Rows.of("+0 +1 -0 +2 -1 -2", "+4");
        check.due("drop of a give", x.drop(0), 5);
        check.due("its lock is held again", x.take(0, 2), NONE);
        check.due("drop of the give before", x.drop(0), 4);
        check.due("drop of a take", x.drop(0), 3);
        check.due("its lock is not held any more", x.give(0, 2), NONE);
        check.due("drop of the first give", x.drop(0), 2);
        check.due("both first takes are held", x.give(0, 0), 3);
        check.due("drop of it", x.drop(0), 2);
        check.due("drop to one", x.drop(0), 1);
        check.due("drop to none", x.drop(0), 0);
        check.due("none is left", x.drop(0), NONE);
        check.due("thread 1 is as it was", x.drop(1), 0);
        check.due("a dropped row may be filled anew", x.take(0, 1), 1);
        check.due("the states are those of the new row", x.states(), 2);
        LockOrders full = Rows.of("", "", "+0 -0 +0 -0 +0 -0");
        check.due("drop from a full row", full.drop(2), 5);
        check.due("it has place again", full.give(2, 0), 6);
    }

    private static void dropRefuses(Check check) {
        LockOrders x = Rows.of("+0", "", "+1", "+2");
        for (int t : NO_THREADS) {
            check.due("drop(" + t + ")", x.drop(t), BAD);
        }
        check.due("drop of an empty row", x.drop(1), NONE);
        check.due("other rows stand", x.states(), 8);
    }

    private static void refusedCallsChangeNothing(Check check) {
        LockOrders x = Rows.of("+0 +1 -1 -0 +0 -0", "+1 +0", "", "+4");
        int[] before = answers(x);
        x.take(0, 3);
        x.give(0, 0);
        x.take(1, 0);
        x.give(1, 2);
        x.take(1, 5);
        x.give(1, -1);
        x.take(4, 0);
        x.give(-1, 0);
        x.drop(2);
        x.drop(4);
        x.drop(-1);
        x.reached(7, 0, 0, 0);
        x.stuckAt(0, 4);
        x.stuckAt(-1, 0);
        int[] after = answers(x);
        for (int i = 0; i < before.length; i++) {
            check.due("answer " + i + " after refused calls", after[i], before[i]);
        }
        check.due("row 0 after refused calls", x.drop(0), 5);
        check.due("row 1 after refused calls", x.drop(1), 1);
        check.due("row 2 after refused calls", x.drop(2), NONE);
        check.due("row 3 after refused calls", x.drop(3), 0);
    }

    private static int[] answers(LockOrders x) {
        return new int[] {x.states(), x.stuck(), x.stuckAt(0, 0), x.stuckAt(0, 1), x.canFinish(), x.ways(),
            x.rings(), x.ringsMet(), x.statesMet(), x.soonest(), x.reached(1, 1, 0, 0)};
    }
}
