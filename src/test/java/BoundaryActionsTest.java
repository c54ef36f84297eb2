import java.util.Collections;
import java.util.List;
import java.util.function.Consumer;

/**
 * The boundary cases of "What it is", of "Terms" where they speak of threads, actions and locks, and of
 * promises 1 to 4: a method for each sentence, which its comment quotes.
 */
public final class BoundaryActionsTest {
    private static final int BAD = LockOrders.BAD_ARG;
    private static final int FULL = LockOrders.FULL;
    private static final int NONE = LockOrders.NONE;
    private static final int LEAST = Integer.MIN_VALUE;
    private static final int MOST = Integer.MAX_VALUE;
    /** Numbers around each range of the document, and some that a shift or a product would fold into one. */
    private static final int[] NUMBERS = {LEAST, LEAST + 1, -4096, -32, -8, -2, -1, 0, 1, 2, 3, 4, 5, 6, 7, 8, 31, 32,
        33, 64, 2401, 4095, 4096, 65536, 1 << 30, MOST - 1, MOST};
    private static final String FULL_ROW = "+0 +1 +2 +3 +4 -4";
    /** Thread 0 is full, thread 2 is empty, and every lock in it is wanted by two: any change shows in the states. */
    private static final String[] MIXED = {"+2 -2 +2 -2 +0 +1", "+1 +0 +2", "", "+0 +1 -0"};

    private final Check check = new Check();

    public static void main(String[] args) {
        BoundaryActionsTest test = new BoundaryActionsTest();
        test.goodFor512Calls();
        test.threads0To3();
        test.atMost6Actions();
        test.locks0To4();
        test.heldIsTakenAndNotGivenSince();
        test.noCallEverThrows();
        test.aRefusedCallChangesNothing();
        test.newObjectHasNoActions();
        test.takeBadThread();
        test.takeBadLock();
        test.takeBadArgumentComesFirst();
        test.takeFull();
        test.takeFullComesBeforeNone();
        test.takeHeld();
        test.takeAnswersHowMany();
        test.giveBadThread();
        test.giveBadLock();
        test.giveBadArgumentComesFirst();
        test.giveFull();
        test.giveFullComesBeforeNone();
        test.giveNotHeld();
        test.giveAnswersHowMany();
        test.dropBadThread();
        test.dropNone();
        test.dropTakesTheLastAway();
        test.dropAnswersHowManyAreLeft();
        test.check.end();
    }

    private static boolean isThread(int t) {
        return t >= 0 && t <= 3;
    }

    private static boolean isLock(int l) {
        return l >= 0 && l <= 4;
    }

    /** "An object is used for at most 512 calls": the 512th still answers as it should. */
    private void goodFor512Calls() {
        LockOrders counting = new LockOrders();
        for (int n = 1; n <= 510; n += 2) {
            check.due("call " + n + " is a take", counting.take(3, 4), 1);
            check.due("call " + (n + 1) + " is a drop", counting.drop(3), 0);
        }
        check.due("call 511 is a take", counting.take(3, 4), 1);
        check.due("call 512 is states()", counting.states(), 2);
        LockOrders asked = Rows.of("+0 +1", "+1 +0");
        for (int n = 5; n <= 511; n++) {
            asked.ways();
        }
        check.due("call 512 is soonest()", asked.soonest(), 2);
    }

    /** "There are four THREADS, 0 to 3". */
    private void threads0To3() {
        LockOrders x = new LockOrders();
        for (int t = 0; t <= 3; t++) {
            check.due("thread " + t + " is there", x.take(t, t), 1);
        }
        check.due("thread -1 is not", x.take(-1, 4), BAD);
        check.due("thread 4 is not", x.take(4, 4), BAD);
        check.due("four threads with one action each", x.states(), 16);
    }

    /** "each with a row of at most 6 ACTIONS". */
    private void atMost6Actions() {
        LockOrders x = new LockOrders();
        for (int t = 0; t <= 3; t++) {
            for (int n = 1; n <= 6; n++) {
                check.due("action " + n + " of thread " + t, n % 2 == 1 ? x.take(t, t) : x.give(t, t), n);
            }
        }
        for (int t = 0; t <= 3; t++) {
            check.due("action 7 of thread " + t, x.take(t, t), FULL);
        }
        check.due("every row has six", x.states(), 7 * 7 * 7 * 7);
    }

    /** "and five LOCKS, 0 to 4". */
    private void locks0To4() {
        LockOrders x = new LockOrders();
        for (int l = 0; l <= 4; l++) {
            check.due("lock " + l + " is there", x.take(0, l), l + 1);
        }
        check.due("lock -1 is not", x.take(1, -1), BAD);
        check.due("lock 5 is not", x.take(1, 5), BAD);
    }

    /** "HELD locks after some of its actions are those that it has taken and not given since". */
    private void heldIsTakenAndNotGivenSince() {
        LockOrders x = Rows.of("+1 -1 +1");
        check.due("taken, given, taken: held", x.take(0, 1), NONE);
        check.due("taken, given, taken: may be given", x.give(0, 1), 4);
        check.due("given again: not held", x.give(0, 1), NONE);
        check.due("given again: may be taken", x.take(0, 1), 5);
        check.due("the other locks were never held", x.give(0, 0), NONE);
    }

    /** "No call ever throws": every call with every kind of number, on empty, middling and full objects. */
    private void noCallEverThrows() {
        LockOrders[] objects = {new LockOrders(), Rows.of(MIXED), Rows.of(FULL_ROW, FULL_ROW, FULL_ROW, FULL_ROW)};
        for (LockOrders x : objects) {
            try {
                for (int a : NUMBERS) {
                    x.stuckAt(a, a);
                    x.stuckAt(a, 3);
                    x.stuckAt(0, a);
                    x.reached(a, a, a, a);
                    x.take(a, 0);
                    x.give(a, 0);
                    x.take(3, a);
                    x.give(3, a);
                    x.take(a, a);
                    x.give(a, a);
                    x.drop(a);
                }
                askAll(x);
            } catch (RuntimeException thrown) {
                check.dueTrue("a call threw " + thrown, false);
            }
        }
    }

    private static void askAll(LockOrders x) {
        x.states();
        x.stuck();
        x.canFinish();
        x.ways();
        x.rings();
        x.ringsMet();
        x.statesMet();
        x.soonest();
    }

    /** "A refused call answers the code named and changes nothing." */
    private void aRefusedCallChangesNothing() {
        changesNothing("take, BAD_ARG by t", x -> check.due("take(4, 0)", x.take(4, 0), BAD));
        changesNothing("take, BAD_ARG by l", x -> check.due("take(1, 5)", x.take(1, 5), BAD));
        changesNothing("take, FULL", x -> check.due("take(0, 3)", x.take(0, 3), FULL));
        changesNothing("take, NONE", x -> check.due("take(1, 1)", x.take(1, 1), NONE));
        changesNothing("give, BAD_ARG by t", x -> check.due("give(-1, 0)", x.give(-1, 0), BAD));
        changesNothing("give, BAD_ARG by l", x -> check.due("give(1, -1)", x.give(1, -1), BAD));
        changesNothing("give, FULL", x -> check.due("give(0, 1)", x.give(0, 1), FULL));
        changesNothing("give, NONE", x -> check.due("give(3, 0)", x.give(3, 0), NONE));
        changesNothing("drop, BAD_ARG below", x -> check.due("drop(-1)", x.drop(-1), BAD));
        changesNothing("drop, BAD_ARG above", x -> check.due("drop(4)", x.drop(4), BAD));
        changesNothing("drop, NONE", x -> check.due("drop(2)", x.drop(2), NONE));
        changesNothing("stuckAt, BAD_ARG", x -> check.due("stuckAt(0, 4)", x.stuckAt(0, 4), BAD));
        changesNothing("stuckAt, NONE", x -> check.due("stuckAt(99, 0)", x.stuckAt(99, 0), NONE));
        changesNothing("reached, BAD_ARG", x -> check.due("reached(7, 0, 0, 0)", x.reached(7, 0, 0, 0), BAD));
    }

    private void changesNothing(String what, Consumer<LockOrders> refused) {
        LockOrders touched = Rows.of(MIXED);
        refused.accept(touched);
        List<Integer> want = Portrait.of(Rows.of(MIXED));
        check.dueTrue("nothing has changed: " + what, Portrait.of(touched).equals(want));
    }

    /** Promise 1: "No thread has actions." */
    private void newObjectHasNoActions() {
        for (int t = 0; t <= 3; t++) {
            check.due("new object: drop(" + t + ")", new LockOrders().drop(t), NONE);
            check.due("new object: the first action of thread " + t, new LockOrders().take(t, 0), 1);
        }
        check.due("new object: only the first state", new LockOrders().states(), 1);
        LockOrders emptied = Rows.of(MIXED);
        for (int t = 0; t <= 3; t++) {
            for (int n = 0; n < 6; n++) {
                emptied.drop(t);
            }
        }
        check.dueTrue("an emptied object is like a new one",
                Portrait.of(emptied).equals(Portrait.of(new LockOrders())));
    }

    /** Promise 2: "t not 0 to 3 .. answers BAD_ARG". */
    private void takeBadThread() {
        for (int t : NUMBERS) {
            check.due("take(" + t + ", 4)", new LockOrders().take(t, 4), isThread(t) ? 1 : BAD);
        }
    }

    /** Promise 2: "or l not 0 to 4 answers BAD_ARG". */
    private void takeBadLock() {
        for (int l : NUMBERS) {
            check.due("take(3, " + l + ")", new LockOrders().take(3, l), isLock(l) ? 1 : BAD);
        }
        check.due("take with both out of range", new LockOrders().take(4, 5), BAD);
    }

    /** Promise 2: "Tested in this order": BAD_ARG before FULL and before NONE. */
    private void takeBadArgumentComesFirst() {
        LockOrders x = Rows.of(FULL_ROW, FULL_ROW, FULL_ROW, FULL_ROW);
        for (int n : NUMBERS) {
            check.due("all full: take(0, " + n + ")", x.take(0, n), isLock(n) ? FULL : BAD);
            check.due("all full: take(" + n + ", 0)", x.take(n, 0), isThread(n) ? FULL : BAD);
        }
        LockOrders held = Rows.of("+0 +1 +2 +3 +4", "+0 +1 +2 +3 +4", "+0 +1 +2 +3 +4", "+0 +1 +2 +3 +4");
        for (int n : NUMBERS) {
            check.due("all held: take(3, " + n + ")", held.take(3, n), isLock(n) ? NONE : BAD);
            check.due("all held: take(" + n + ", 4)", held.take(n, 4), isThread(n) ? NONE : BAD);
        }
    }

    /** Promise 2: "FULL", "The thread has 6 actions." */
    private void takeFull() {
        for (int t = 0; t <= 3; t++) {
            LockOrders x = new LockOrders();
            Rows.put(x, t, "+0 -0 +0 -0 +0");
            check.due("a sixth take of thread " + t, x.take(t, 1), 6);
            check.due("a seventh take of thread " + t, x.take(t, 2), FULL);
            check.due("thread " + t + " is full, another is not", x.take(3 - t, 2), 1);
        }
    }

    /** Promise 2: "Tested in this order": FULL before NONE. */
    private void takeFullComesBeforeNone() {
        LockOrders x = Rows.of(FULL_ROW);
        for (int l = 0; l <= 3; l++) {
            check.due("full and held: take(0, " + l + ")", x.take(0, l), FULL);
        }
        check.due("one less", x.drop(0), 5);
        for (int l = 0; l <= 4; l++) {
            check.due("not full, but held: take(0, " + l + ")", x.take(0, l), NONE);
        }
    }

    /** Promise 2: "the thread holds l after its actions answers NONE". */
    private void takeHeld() {
        for (int l = 0; l <= 4; l++) {
            LockOrders x = new LockOrders();
            check.due("take(2, " + l + ")", x.take(2, l), 1);
            check.due("take(2, " + l + ") once more", x.take(2, l), NONE);
            check.due("the lock in another thread's row", x.take(1, l), 1);
            check.due("the thread takes another lock", x.take(2, (l + 1) % 5), 2);
            check.due("the first is still held", x.take(2, l), NONE);
            check.due("give", x.give(2, l), 3);
            check.due("after its give it may be taken", x.take(2, l), 4);
        }
    }

    /** Promise 2: "Otherwise how many actions it has." */
    private void takeAnswersHowMany() {
        LockOrders x = Rows.of("+0 +1 +2 +3 +4 -0", "+0");
        check.due("the first", x.take(2, 4), 1);
        check.due("the second", x.take(1, 4), 2);
        check.due("after a drop from six", x.drop(0), 5);
        check.due("after a drop from five", x.drop(0), 4);
        check.due("the fifth", x.take(0, 4), 5);
    }

    /** Promise 3: "t not 0 to 3 .. answers BAD_ARG". */
    private void giveBadThread() {
        for (int t : NUMBERS) {
            LockOrders x = Rows.of("+4", "+4", "+4", "+4");
            check.due("give(" + t + ", 4)", x.give(t, 4), isThread(t) ? 2 : BAD);
        }
    }

    /** Promise 3: "or l not 0 to 4 answers BAD_ARG". */
    private void giveBadLock() {
        for (int l : NUMBERS) {
            LockOrders x = Rows.of("", "", "", "+0 +1 +2 +3 +4");
            check.due("give(3, " + l + ")", x.give(3, l), isLock(l) ? 6 : BAD);
        }
        check.due("give with both out of range", new LockOrders().give(-1, -1), BAD);
    }

    /** Promise 3: "Tested in this order": BAD_ARG before FULL and before NONE. */
    private void giveBadArgumentComesFirst() {
        LockOrders x = Rows.of(FULL_ROW, FULL_ROW, FULL_ROW, FULL_ROW);
        LockOrders empty = new LockOrders();
        for (int n : NUMBERS) {
            check.due("all full: give(0, " + n + ")", x.give(0, n), isLock(n) ? FULL : BAD);
            check.due("all full: give(" + n + ", 0)", x.give(n, 0), isThread(n) ? FULL : BAD);
            check.due("none held: give(3, " + n + ")", empty.give(3, n), isLock(n) ? NONE : BAD);
            check.due("none held: give(" + n + ", 4)", empty.give(n, 4), isThread(n) ? NONE : BAD);
        }
    }

    /** Promise 3: "FULL", "The thread has 6 actions." */
    private void giveFull() {
        for (int t = 0; t <= 3; t++) {
            LockOrders x = new LockOrders();
            Rows.put(x, t, "+0 +1 +2 +3 +4");
            check.due("a sixth action of thread " + t, x.give(t, 4), 6);
            check.due("a seventh action of thread " + t, x.give(t, 3), FULL);
            Rows.put(x, 3 - t, "+0");
            check.due("thread " + t + " is full, another is not", x.give(3 - t, 0), 2);
        }
    }

    /** Promise 3: "Tested in this order": FULL before NONE. */
    private void giveFullComesBeforeNone() {
        LockOrders x = Rows.of("+0 -0 +0 -0 +0 -0");
        for (int l = 0; l <= 4; l++) {
            check.due("full and not held: give(0, " + l + ")", x.give(0, l), FULL);
        }
        check.due("one less", x.drop(0), 5);
        for (int l = 1; l <= 4; l++) {
            check.due("not full, not held: give(0, " + l + ")", x.give(0, l), NONE);
        }
    }

    /** Promise 3: "the thread does not hold l after its actions answers NONE". */
    private void giveNotHeld() {
        for (int l = 0; l <= 4; l++) {
            LockOrders x = new LockOrders();
            check.due("empty: give(2, " + l + ")", x.give(2, l), NONE);
            check.due("take(1, " + l + ")", x.take(1, l), 1);
            check.due("held by another thread alone: give(2, " + l + ")", x.give(2, l), NONE);
            check.due("take(2, " + l + ")", x.take(2, l), 1);
            check.due("give(2, " + l + ")", x.give(2, l), 2);
            check.due("given already: give(2, " + l + ")", x.give(2, l), NONE);
            check.due("the other thread still has it", x.give(1, l), 2);
        }
    }

    /** Promise 3: "Otherwise how many actions it has." */
    private void giveAnswersHowMany() {
        LockOrders x = Rows.of("+0", "+0 +1 +2 +3 +4");
        check.due("the least", x.give(0, 0), 2);
        check.due("the most", x.give(1, 2), 6);
    }

    /** Promise 4: "BAD_ARG if t is not 0 to 3". */
    private void dropBadThread() {
        for (int t : NUMBERS) {
            check.due("empty: drop(" + t + ")", new LockOrders().drop(t), isThread(t) ? NONE : BAD);
            LockOrders x = Rows.of("+0 +1", "+0 +1", "+0 +1", "+0 +1");
            check.due("two each: drop(" + t + ")", x.drop(t), isThread(t) ? 1 : BAD);
        }
    }

    /** Promise 4: "NONE if it has none". */
    private void dropNone() {
        for (int t = 0; t <= 3; t++) {
            String[] rows = Collections.nCopies(4, "+1").toArray(new String[0]);
            rows[t] = "";
            LockOrders x = Rows.of(rows);
            check.due("never filled: drop(" + t + ")", x.drop(t), NONE);
            check.due("take(" + t + ", 0)", x.take(t, 0), 1);
            check.due("one: drop(" + t + ")", x.drop(t), 0);
            check.due("none left: drop(" + t + ")", x.drop(t), NONE);
            check.due("still none left: drop(" + t + ")", x.drop(t), NONE);
            check.due("the row begins at one again", x.take(t, 0), 1);
        }
    }

    /** Promise 4: "Takes thread t's last action away". */
    private void dropTakesTheLastAway() {
        LockOrders taken = Rows.of("+3 +2");
        taken.drop(0);
        check.due("a dropped take: not held", taken.give(0, 2), NONE);
        check.due("the take before it stands", taken.take(0, 3), NONE);
        LockOrders given = Rows.of("+3 +2 -3");
        given.drop(0);
        check.due("a dropped give: still held", given.take(0, 3), NONE);
        LockOrders full = Rows.of(FULL_ROW);
        check.due("full", full.take(0, 4), FULL);
        full.drop(0);
        check.due("full no more", full.give(0, 0), 6);
        check.due("full again", full.give(0, 1), FULL);
        LockOrders changed = Rows.of("+0 +1", "+1 +0");
        changed.drop(1);
        changed.take(1, 3);
        check.dueTrue("the dropped action leaves no trace",
                Portrait.of(changed).equals(Portrait.of(Rows.of("+0 +1", "+1 +3"))));
    }

    /** Promise 4: "Otherwise how many are left." */
    private void dropAnswersHowManyAreLeft() {
        for (int t = 0; t <= 3; t++) {
            LockOrders x = Rows.of(FULL_ROW, FULL_ROW, FULL_ROW, FULL_ROW);
            for (int left = 5; left >= 0; left--) {
                check.due("drop(" + t + ") to " + left, x.drop(t), left);
            }
            check.due("another row is as it was", x.drop(3 - t), 5);
        }
    }
}
