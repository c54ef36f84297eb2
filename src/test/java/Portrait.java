import java.util.ArrayList;
import java.util.List;

/** All that can be asked of an object, so that two objects can be compared. It empties the object's rows. */
final class Portrait {
    private Portrait() {
    }

    /** Fewer than 400 calls: of the 512 that an object is used for, over a hundred are left to come before. */
    static List<Integer> of(LockOrders x) {
        List<Integer> seen = new ArrayList<>(List.of(x.states(), x.stuck(), x.canFinish(), x.ways(), x.rings(),
                x.ringsMet(), x.statesMet(), x.soonest()));
        for (int i = 0; i < 6; i++) {
            for (int t = 0; t < 4; t++) {
                seen.add(x.stuckAt(i, t));
            }
        }
        for (int s = 0; s < 16; s++) {
            seen.add(x.reached(s / 8 % 2, s / 4 % 2, s / 2 % 2, s % 2));
        }
        for (int t = 0; t < 4; t++) {
            emptyRow(x, t, seen);
        }
        return seen;
    }

    /** Which locks are held after each number of actions: this tells every action but a sixth. */
    private static void emptyRow(LockOrders x, int t, List<Integer> seen) {
        int left = 0;
        for (int level = 0; level < 7 && left >= 0; level++) {
            for (int l = 0; l < 5; l++) {
                int answer = x.give(t, l);
                seen.add(answer);
                if (answer > 0) {
                    x.drop(t);
                }
            }
            left = x.drop(t);
            seen.add(left);
        }
    }
}
