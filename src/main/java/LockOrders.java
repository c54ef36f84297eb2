/**
 * Threads that take and give locks, all states that they can come to, states in which they are
 * stuck, and rings of requests that are foretold from each thread alone.
 */
public final class LockOrders {
    public static final int BAD_ARG = -1;
    public static final int FULL = -2;
    public static final int NONE = -4;

    private static final int THREADS = 4;
    private static final int LOCKS = 5;
    private static final int MOST_ACTIONS = 6;
    private static final int THREAD_SETS = 16;
    private static final int MODULUS = 1000003;
    private static final int NOBODY = -1;

    // A state is written as four octal digits, the numbers of done actions. Thread 0 has the
    // highest digit: then the order of the numbers is the order of the states.
    private static final int DIGITS = 8;
    private static final int CELLS = 32;
    private static final int STATES = 4096;

    // A set of actions is written like a state: each digit is the number of actions before the
    // thread's own. No thread does 7 actions, so 7 is free for a thread outside the set.
    private static final int OUTSIDE = 7;

    private final int[] actionCount = new int[THREADS];
    private final int[] lockOf = new int[CELLS];
    private final boolean[] isTake = new boolean[CELLS];

    // For each thread and number of done actions, a bit for each lock that is then held.
    private final int[] heldAfter = new int[CELLS];

    // What follows is worked out anew by each question, so that no change can leave it stale.
    private final boolean[] isReached = new boolean[STATES];
    private final int[] waysTo = new int[STATES];
    private final boolean[] isRing = new boolean[STATES];
    private final boolean[] isMet = new boolean[STATES];

    public LockOrders() {
    }

    public int take(int t, int l) {
        if (!isThread(t) || !isLock(l)) {
            return BAD_ARG;
        }
        if (actionCount[t] >= MOST_ACTIONS) {
            return FULL;
        }
        if (holdsAtEnd(t, l)) {
            return NONE;
        }
        return append(t, l, true);
    }

    public int give(int t, int l) {
        if (!isThread(t) || !isLock(l)) {
            return BAD_ARG;
        }
        if (actionCount[t] >= MOST_ACTIONS) {
            return FULL;
        }
        if (!holdsAtEnd(t, l)) {
            return NONE;
        }
        return append(t, l, false);
    }

    public int drop(int t) {
        if (!isThread(t)) {
            return BAD_ARG;
        }
        if (actionCount[t] == 0) {
            return NONE;
        }
        actionCount[t]--;
        return actionCount[t];
    }

    public int states() {
        explore();
        int number = 0;
        for (int s = 0; s < STATES; s++) {
            if (isReached[s]) {
                number++;
            }
        }
        return number;
    }

    public int stuck() {
        explore();
        int number = 0;
        for (int s = 0; s < STATES; s++) {
            if (isStuck(s)) {
                number++;
            }
        }
        return number;
    }

    public int stuckAt(int i, int t) {
        if (!isThread(t)) {
            return BAD_ARG;
        }
        explore();
        int before = 0;
        for (int s = 0; s < STATES; s++) {
            if (isStuck(s)) {
                if (before == i) {
                    return doneBy(s, t);
                }
                before++;
            }
        }
        return NONE;
    }

    public int canFinish() {
        explore();
        int end = finishedState();
        return isReached[end] ? 1 : 0;
    }

    public int reached(int a, int b, int c, int d) {
        if (!isCount(a) || !isCount(b) || !isCount(c) || !isCount(d)) {
            return BAD_ARG;
        }
        explore();
        int s = a * oneBy(0) + b * oneBy(1) + c * oneBy(2) + d * oneBy(3);
        return isReached[s] ? 1 : 0;
    }

    public int ways() {
        explore();
        int end = finishedState();
        return waysTo[end];
    }

    public int rings() {
        findRings();
        int number = 0;
        for (int r = 0; r < STATES; r++) {
            if (isRing[r]) {
                number++;
            }
        }
        return number;
    }

    public int ringsMet() {
        explore();
        findRings();
        findMet();
        int number = 0;
        for (int r = 0; r < STATES; r++) {
            if (isMet[r]) {
                number++;
            }
        }
        return number;
    }

    public int statesMet() {
        explore();
        findRings();
        int number = 0;
        for (int s = 0; s < STATES; s++) {
            if (meetsRing(s)) {
                number++;
            }
        }
        return number;
    }

    public int soonest() {
        explore();
        findRings();
        int least = NONE;
        for (int s = 0; s < STATES; s++) {
            if (meetsRing(s)) {
                int done = doneByAll(s);
                if (least == NONE || done < least) {
                    least = done;
                }
            }
        }
        return least;
    }

    private static boolean isThread(int t) {
        return t >= 0 && t < THREADS;
    }

    private static boolean isLock(int l) {
        return l >= 0 && l < LOCKS;
    }

    private static boolean isCount(int done) {
        return done >= 0 && done <= MOST_ACTIONS;
    }

    private static int cell(int t, int done) {
        return t * DIGITS + done;
    }

    // The number of the state in which thread t has done one action and the others none.
    private static int oneBy(int t) {
        return 1 << (9 - 3 * t);
    }

    private static int doneBy(int s, int t) {
        return (s >> (9 - 3 * t)) & 7;
    }

    private static int doneByAll(int s) {
        int sum = 0;
        for (int t = 0; t < THREADS; t++) {
            sum += doneBy(s, t);
        }
        return sum;
    }

    private boolean holdsAtEnd(int t, int l) {
        int end = cell(t, actionCount[t]);
        return (heldAfter[end] & (1 << l)) != 0;
    }

    private int append(int t, int l, boolean taking) {
        int at = cell(t, actionCount[t]);
        lockOf[at] = l;
        isTake[at] = taking;
        heldAfter[at + 1] = heldAfter[at] ^ (1 << l);
        actionCount[t]++;
        return actionCount[t];
    }

    private int finishedState() {
        int s = 0;
        for (int t = 0; t < THREADS; t++) {
            s += actionCount[t] * oneBy(t);
        }
        return s;
    }

    // A step always leads to a greater number, so one pass upwards meets each state after all
    // those that lead to it. Ways are no sign of being reached: their remainder may be 0.
    private void explore() {
        for (int s = 0; s < STATES; s++) {
            isReached[s] = false;
            waysTo[s] = 0;
        }
        isReached[0] = true;
        waysTo[0] = 1;
        for (int s = 0; s < STATES; s++) {
            if (isReached[s]) {
                stepFrom(s);
            }
        }
    }

    private void stepFrom(int s) {
        for (int t = 0; t < THREADS; t++) {
            if (mayGoOn(s, t)) {
                int next = s + oneBy(t);
                isReached[next] = true;
                waysTo[next] = (waysTo[next] + waysTo[s]) % MODULUS;
            }
        }
    }

    private boolean mayGoOn(int s, int t) {
        int done = doneBy(s, t);
        if (done >= actionCount[t]) {
            return false;
        }
        int at = cell(t, done);
        return !isTake[at] || !isHeldByOther(s, t, lockOf[at]);
    }

    private boolean isHeldByOther(int s, int t, int l) {
        for (int u = 0; u < THREADS; u++) {
            int done = doneBy(s, u);
            int at = cell(u, done);
            if (u != t && (heldAfter[at] & (1 << l)) != 0) {
                return true;
            }
        }
        return false;
    }

    private boolean isStuck(int s) {
        if (!isReached[s] || s == finishedState()) {
            return false;
        }
        for (int t = 0; t < THREADS; t++) {
            if (mayGoOn(s, t)) {
                return false;
            }
        }
        return true;
    }

    private void findRings() {
        for (int r = 0; r < STATES; r++) {
            isRing[r] = formsRing(r);
        }
    }

    private boolean formsRing(int r) {
        int held = 0;
        int size = 0;
        int first = NOBODY;
        for (int t = 0; t < THREADS; t++) {
            int done = doneBy(r, t);
            if (done != OUTSIDE) {
                int at = cell(t, done);
                if (!isRequest(t, done) || (held & heldAfter[at]) != 0) {
                    return false;
                }
                held |= heldAfter[at];
                size++;
                first = t;
            }
        }
        return size >= 2 && comesAround(r, first, size);
    }

    private boolean isRequest(int t, int done) {
        int at = cell(t, done);
        return done < actionCount[t] && isTake[at] && heldAfter[at] != 0;
    }

    // No lock is held twice here, so at most one thread can follow each: the only order to try
    // is the one that begins anywhere and goes on from holder to holder.
    private boolean comesAround(int r, int first, int size) {
        int t = first;
        for (int steps = 1; steps <= size; steps++) {
            t = holderOfWanted(r, t);
            if (t == NOBODY) {
                return false;
            }
            if (t == first) {
                return steps == size;
            }
        }
        return false;
    }

    private int holderOfWanted(int r, int t) {
        int before = doneBy(r, t);
        int wanting = cell(t, before);
        for (int u = 0; u < THREADS; u++) {
            int done = doneBy(r, u);
            int at = cell(u, done);
            if (done != OUTSIDE && (heldAfter[at] & (1 << lockOf[wanting])) != 0) {
                return u;
            }
        }
        return NOBODY;
    }

    private void findMet() {
        for (int r = 0; r < STATES; r++) {
            isMet[r] = false;
        }
        for (int s = 0; s < STATES; s++) {
            if (isReached[s]) {
                markMetIn(s);
            }
        }
    }

    private void markMetIn(int s) {
        for (int set = 0; set < THREAD_SETS; set++) {
            int r = nextActions(s, set);
            if (isRing[r]) {
                isMet[r] = true;
            }
        }
    }

    private boolean meetsRing(int s) {
        if (!isReached[s]) {
            return false;
        }
        for (int set = 0; set < THREAD_SETS; set++) {
            int r = nextActions(s, set);
            if (isRing[r]) {
                return true;
            }
        }
        return false;
    }

    private static int nextActions(int s, int set) {
        int r = 0;
        for (int t = 0; t < THREADS; t++) {
            int done = (set & (1 << t)) != 0 ? doneBy(s, t) : OUTSIDE;
            r += done * oneBy(t);
        }
        return r;
    }
}
