/** Promises 5 to 10 and 15: states, stuck ones, their order, the end, and the ways there. */
public final class StatesTest {
    private static final int BAD = LockOrders.BAD_ARG;
    private static final int NONE = LockOrders.NONE;
    /** Each thread has its own lock, so none ever hinders another. */
    private static final String[] FOUR_APART = {
        "+0 -0 +0 -0 +0 -0", "+1 -1 +1 -1 +1 -1", "+2 -2 +2 -2 +2 -2", "+3 -3 +3 -3 +3 -3"};

    public static void main(String[] args) {
        Check check = new Check();
        countsStates(check);
        countsStuck(check);
        finishedThreadsKeepTheirLocks(check);
        ordersStuck(check);
        stuckAtRefuses(check);
        tellsWhetherAllFinish(check);
        tellsWhichAreReached(check);
        reachedRefuses(check);
        countsWays(check);
        waysAreARemainder(check);
        aRemainderOfNoneIsNoSignOfNoWay(check);
        check.end();
    }

    private static void countsStates(Check check) {
        check.due("states of one row", Rows.of("", "", "+0 +1 -0 -1").states(), 5);
        check.due("states of two rows apart", Rows.of("+0 -0", "+1 -1").states(), 9);
        check.due("states of two rows with one lock", Rows.of("+0 -0", "", "", "+0 -0").states(), 8);
        check.due("states, one lock, never given", Rows.of("+0", "+0", "+0", "+0").states(), 5);
        check.due("the most states", Rows.of(FOUR_APART).states(), 2401);
        LockOrders x = Rows.of("+0 -0", "+1 -1");
        x.drop(1);
        check.due("states after drop", x.states(), 6);
        check.due("states asked again", x.states(), 6);
    }

    private static void countsStuck(Check check) {
        check.due("stuck, crosswise", Rows.of("+0 +1", "+1 +0").stuck(), 3);
        check.due("stuck, crosswise, all given", Rows.of("+0 +1 -1 -0", "+1 +0 -0 -1").stuck(), 1);
        check.due("stuck, the same order", Rows.of("+0 +1 -1 -0", "+0 +1 -1 -0").stuck(), 0);
        check.due("the end is not stuck", Rows.of("+0", "+1").stuck(), 0);
        check.due("stuck, three around",
                Rows.of("+0 +1 -1 -0", "+1 +2 -2 -1", "+2 +0 -0 -2").stuck(), 1);
        check.due("not stuck while a fourth goes on",
                Rows.of("+0 +1 -1 -0", "+1 +0 -0 -1", "+2 -2 +2 -2").stuck(), 1);
    }

    private static void finishedThreadsKeepTheirLocks(Check check) {
        LockOrders x = Rows.of("+0", "+0 -0");
        check.due("kept: states", x.states(), 5);
        check.due("kept: stuck", x.stuck(), 1);
        check.due("kept: stuckAt(0, 0)", x.stuckAt(0, 0), 1);
        check.due("kept: stuckAt(0, 1)", x.stuckAt(0, 1), 0);
        check.due("kept: canFinish", x.canFinish(), 1);
        check.due("kept: ways", x.ways(), 1);
    }

    private static void ordersStuck(Check check) {
        LockOrders x = Rows.of("+0", "+0", "+0", "+0");
        check.due("one of four: stuck", x.stuck(), 4);
        for (int i = 0; i < 4; i++) {
            for (int t = 0; t < 4; t++) {
                check.due("one of four: stuckAt(" + i + ", " + t + ")", x.stuckAt(i, t), t == 3 - i ? 1 : 0);
            }
        }
        check.due("one of four: stuckAt(4, 0)", x.stuckAt(4, 0), NONE);
        LockOrders y = Rows.of("+0 +1", "+1 +0");
        int[][] want = {{0, 2}, {1, 1}, {2, 0}};
        for (int i = 0; i < 3; i++) {
            check.due("crosswise: stuckAt(" + i + ", 0)", y.stuckAt(i, 0), want[i][0]);
            check.due("crosswise: stuckAt(" + i + ", 1)", y.stuckAt(i, 1), want[i][1]);
            check.due("crosswise: stuckAt(" + i + ", 2)", y.stuckAt(i, 2), 0);
        }
    }

    private static void stuckAtRefuses(Check check) {
        LockOrders none = Rows.of("+0");
        LockOrders some = Rows.of("+0", "+0");
        int[] places = {0, 1, 2, 99, -1, Integer.MIN_VALUE, Integer.MAX_VALUE};
        for (int i : places) {
            for (int t : new int[] {-1, 4, Integer.MIN_VALUE, Integer.MAX_VALUE}) {
                check.due("stuckAt(" + i + ", " + t + ") with none stuck", none.stuckAt(i, t), BAD);
                check.due("stuckAt(" + i + ", " + t + ") with some stuck", some.stuckAt(i, t), BAD);
            }
            check.due("stuckAt(" + i + ", 3) with none stuck", none.stuckAt(i, 3), NONE);
            check.due("stuckAt(" + i + ", 3) with two stuck", some.stuckAt(i, 3), i == 0 || i == 1 ? 0 : NONE);
        }
    }

    private static void tellsWhetherAllFinish(Check check) {
        check.due("finish: given back", Rows.of("+0 -0", "+0 -0", "+0 -0", "+0 -0").canFinish(), 1);
        check.due("finish: one keeps it", Rows.of("+0 -0", "+0 -0", "+0 -0", "+0").canFinish(), 1);
        check.due("finish: two keep it", Rows.of("+0 -0", "+0 -0", "+0", "+0").canFinish(), 0);
        check.due("finish: crosswise", Rows.of("+0 +1 -1 -0", "+1 +0 -0 -1").canFinish(), 1);
        check.due("finish: rows of six", Rows.of(FOUR_APART).canFinish(), 1);
    }

    private static void tellsWhichAreReached(Check check) {
        LockOrders x = Rows.of("+0 -0", "+0 -0", "", "+1");
        check.due("reached: first", x.reached(0, 0, 0, 0), 1);
        check.due("reached: one in", x.reached(1, 0, 0, 0), 1);
        check.due("reached: other in", x.reached(0, 1, 0, 1), 1);
        check.due("reached: both in", x.reached(1, 1, 0, 0), 0);
        check.due("reached: one after the other", x.reached(2, 1, 0, 0), 1);
        check.due("reached: end", x.reached(2, 2, 0, 1), 1);
        check.due("reached: beyond row 0", x.reached(3, 0, 0, 0), 0);
        check.due("reached: beyond row 2", x.reached(0, 0, 1, 0), 0);
        check.due("reached: beyond row 3", x.reached(0, 0, 0, 2), 0);
        check.due("reached: far beyond", x.reached(6, 6, 6, 6), 0);
        check.due("drop", x.drop(0), 1);
        check.due("reached: beyond after drop", x.reached(2, 0, 0, 0), 0);
        check.due("reached: shut out after drop", x.reached(1, 2, 0, 1), 1);
        check.due("reached: all of six", Rows.of(FOUR_APART).reached(6, 6, 6, 6), 1);
        LockOrders gap = Rows.of("+0 +1 -0 -1", "+1 +0 -1 -0");
        check.due("reached: locks alone would allow it, but no way leads there", gap.reached(3, 3, 0, 0), 0);
    }

    private static void reachedRefuses(Check check) {
        LockOrders x = Rows.of(FOUR_APART);
        for (int bad : new int[] {-1, 7, 8, 4096, Integer.MIN_VALUE, Integer.MAX_VALUE}) {
            check.due("reached(" + bad + ", 0, 0, 0)", x.reached(bad, 0, 0, 0), BAD);
            check.due("reached(0, " + bad + ", 0, 0)", x.reached(0, bad, 0, 0), BAD);
            check.due("reached(0, 0, " + bad + ", 0)", x.reached(0, 0, bad, 0), BAD);
            check.due("reached(0, 0, 0, " + bad + ")", x.reached(0, 0, 0, bad), BAD);
        }
        check.due("six is in range even for an empty row", new LockOrders().reached(6, 0, 0, 0), 0);
    }

    private static void countsWays(Check check) {
        check.due("ways of one row", Rows.of("+0 +1 -1 -0").ways(), 1);
        check.due("ways apart", Rows.of("+0 -0", "+1 -1").ways(), 6);
        check.due("ways of four single actions", Rows.of("+0", "+1", "+2", "+3").ways(), 24);
        check.due("ways with one lock", Rows.of("+0 -0", "+0 -0", "+0 -0").ways(), 6);
        check.due("ways crosswise", Rows.of("+0 +1 -1 -0", "+1 +0 -0 -1").ways(), 4);
        check.due("ways, none", Rows.of("+0", "+0").ways(), 0);
    }

    private static void waysAreARemainder(Check check) {
        long three = choose(12) * choose(18);
        long four = three * choose(24);
        check.dueTrue("24! / 6!^4", four == 2308743493056L);
        check.due("ways of three rows apart",
                Rows.of(FOUR_APART[0], FOUR_APART[1], FOUR_APART[2]).ways(), (int) (three % 1000003L));
        check.due("ways of four rows apart", Rows.of(FOUR_APART).ways(), (int) (four % 1000003L));
    }

    /** These rows have many ways, but 1000003 divides their number. */
    private static void aRemainderOfNoneIsNoSignOfNoWay(Check check) {
        LockOrders x = Rows.of("+2 -2 +2 +1 -1 -2", "+1 +0 -0 +0 -0 -1", "+0 -0 +4 +1 -4 -1", "+0 +4 +3 -3 -4 -0");
        check.due("remainder 0: ways", x.ways(), 0);
        check.due("remainder 0: canFinish", x.canFinish(), 1);
        check.due("remainder 0: reached", x.reached(6, 6, 6, 6), 1);
    }

    /** In how many ways six are chosen out of n. */
    private static long choose(int n) {
        long ways = 1;
        for (int k = 1; k <= 6; k++) {
            ways = ways * (n - 6 + k) / k;
        }
        return ways;
    }
}
