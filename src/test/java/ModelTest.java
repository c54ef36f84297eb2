import java.util.List;
import java.util.Set;

/** All promises: long mixed runs of calls, each answer compared with the model's. */
public final class ModelTest {
    private static final int OBJECTS = 300;
    private static final int CHANGES = 60;
    private static final int CHANGES_PER_LOOK = 20;
    private static final int CHANGES_PER_QUESTION = 3;
    private static final int QUESTIONS = 10;

    private final Check check = new Check();
    private long seed = 20261115;
    private int mostRings = 0;
    private int unmetRings = 0;

    public static void main(String[] args) {
        ModelTest test = new ModelTest();
        for (int n = 0; n < OBJECTS; n++) {
            test.oneObject(n);
        }
        // Without these the runs would say little about rings.
        test.check.dueTrue("some runs have many rings", test.mostRings >= 8);
        test.check.dueTrue("some rings are not met", test.unmetRings >= 10);
        test.check.end();
    }

    /** The same numbers on every run: a failure can be looked at again. */
    private int below(int bound) {
        seed = seed * 6364136223846793005L + 1442695040888963407L;
        return (int) ((seed >>> 33) % bound);
    }

    private void oneObject(int n) {
        LockOrders x = new LockOrders();
        Model model = new Model();
        int threads = 2 + n % 3;
        int locks = 2 + n / 3 % 4;
        for (int i = 1; i <= CHANGES; i++) {
            change(x, model, threads, locks);
            if (i % CHANGES_PER_QUESTION == 0) {
                ask(x, model, below(QUESTIONS));
            }
            if (i % CHANGES_PER_LOOK == 0) {
                look(x, model);
            }
        }
    }

    private void change(LockOrders x, Model model, int threads, int locks) {
        int kind = below(16);
        int t = below(40) == 0 ? below(9) - 3 : below(threads);
        int l = below(40) == 0 ? below(11) - 3 : below(locks);
        String before = model + " ";
        if (kind < 9) {
            check.due(before + "take(" + t + ", " + l + ")", x.take(t, l), model.put(t, l, true));
        } else if (kind < 14) {
            check.due(before + "give(" + t + ", " + l + ")", x.give(t, l), model.put(t, l, false));
        } else {
            check.due(before + "drop(" + t + ")", x.drop(t), model.drop(t));
        }
    }

    private void look(LockOrders x, Model model) {
        for (int which = 0; which < QUESTIONS; which++) {
            ask(x, model, which);
        }
        int rings = model.rings();
        mostRings = Math.max(mostRings, rings);
        unmetRings += rings - model.ringsMet();
    }

    /** One question alone: right after a change, it must not lean on what an earlier one left behind. */
    private void ask(LockOrders x, Model model, int which) {
        switch (which) {
            case 0 -> check.due(model + " states()", x.states(), model.reached().size());
            case 1 -> check.due(model + " canFinish()", x.canFinish(),
                    model.reached().contains(model.end()) ? 1 : 0);
            case 2 -> check.due(model + " ways()", x.ways(), model.ways());
            case 3 -> check.due(model + " rings()", x.rings(), model.rings());
            case 4 -> check.due(model + " ringsMet()", x.ringsMet(), model.ringsMet());
            case 5 -> check.due(model + " statesMet()", x.statesMet(), model.statesMet());
            case 6 -> check.due(model + " soonest()", x.soonest(), model.soonest());
            case 7 -> check.due(model + " stuck()", x.stuck(), model.stuck().size());
            case 8 -> askStuckAt(x, model);
            default -> askReached(x, model);
        }
    }

    private void askStuckAt(LockOrders x, Model model) {
        List<List<Integer>> stuck = model.stuck();
        int[] places = {0, 1, below(stuck.size() + 1), stuck.size() - 1, stuck.size()};
        for (int i : places) {
            int t = below(6) - 1;
            int want = t < 0 || t > 3 ? -1 : i < 0 || i >= stuck.size() ? -4 : stuck.get(i).get(t);
            check.due(model + " stuckAt(" + i + ", " + t + ")", x.stuckAt(i, t), want);
        }
    }

    private void askReached(LockOrders x, Model model) {
        Set<List<Integer>> reached = model.reached();
        for (int n = 0; n < 10; n++) {
            List<Integer> s = model.end().stream().map(most -> below(most + 1) + (below(30) == 0 ? 1 : 0)).toList();
            int want = s.contains(7) ? -1 : reached.contains(s) ? 1 : 0;
            check.due(model + " reached" + s, x.reached(s.get(0), s.get(1), s.get(2), s.get(3)), want);
        }
    }
}
