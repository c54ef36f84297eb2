import java.math.BigInteger;
import java.util.ArrayDeque;
import java.util.ArrayList;
import java.util.Deque;
import java.util.HashSet;
import java.util.LinkedHashSet;
import java.util.List;
import java.util.Map;
import java.util.Set;
import java.util.TreeMap;
import java.util.TreeSet;

/**
 * The document's terms said over again with the library's collections and none of the program's
 * devices: states are lists, held locks are found by going through the actions, and a ring's order
 * is looked for among all orders.
 */
final class Model {
    private record Action(boolean taking, int lock) {
    }

    private record Request(int thread, int before, int lock, Set<Integer> held) {
    }

    private final List<List<Action>> rows = new ArrayList<>();

    Model() {
        for (int t = 0; t < 4; t++) {
            rows.add(new ArrayList<>());
        }
    }

    int put(int t, int l, boolean taking) {
        if (t < 0 || t > 3 || l < 0 || l > 4) {
            return -1;
        }
        List<Action> row = rows.get(t);
        if (row.size() == 6) {
            return -2;
        }
        if (held(t, row.size()).contains(l) == taking) {
            return -4;
        }
        row.add(new Action(taking, l));
        return row.size();
    }

    int drop(int t) {
        if (t < 0 || t > 3) {
            return -1;
        }
        List<Action> row = rows.get(t);
        if (row.isEmpty()) {
            return -4;
        }
        row.remove(row.size() - 1);
        return row.size();
    }

    private Set<Integer> held(int t, int done) {
        Set<Integer> locks = new HashSet<>();
        for (Action action : rows.get(t).subList(0, done)) {
            if (action.taking()) {
                locks.add(action.lock());
            } else {
                locks.remove(action.lock());
            }
        }
        return locks;
    }

    private List<List<Integer>> after(List<Integer> state) {
        List<List<Integer>> next = new ArrayList<>();
        for (int t = 0; t < 4; t++) {
            if (mayGoOn(state, t)) {
                List<Integer> then = new ArrayList<>(state);
                then.set(t, state.get(t) + 1);
                next.add(then);
            }
        }
        return next;
    }

    private boolean mayGoOn(List<Integer> state, int t) {
        if (state.get(t) == rows.get(t).size()) {
            return false;
        }
        Action action = rows.get(t).get(state.get(t));
        if (!action.taking()) {
            return true;
        }
        for (int u = 0; u < 4; u++) {
            if (u != t && held(u, state.get(u)).contains(action.lock())) {
                return false;
            }
        }
        return true;
    }

    Set<List<Integer>> reached() {
        List<Integer> first = List.of(0, 0, 0, 0);
        Set<List<Integer>> found = new LinkedHashSet<>();
        Deque<List<Integer>> open = new ArrayDeque<>();
        found.add(first);
        open.add(first);
        while (!open.isEmpty()) {
            for (List<Integer> next : after(open.remove())) {
                if (found.add(next)) {
                    open.add(next);
                }
            }
        }
        return found;
    }

    List<Integer> end() {
        return rows.stream().map(List::size).toList();
    }

    List<List<Integer>> stuck() {
        Set<List<Integer>> sorted = new TreeSet<>(Model::compare);
        for (List<Integer> state : reached()) {
            if (after(state).isEmpty() && !state.equals(end())) {
                sorted.add(state);
            }
        }
        return new ArrayList<>(sorted);
    }

    private static int compare(List<Integer> a, List<Integer> b) {
        for (int t = 0; t < 4; t++) {
            if (!a.get(t).equals(b.get(t))) {
                return a.get(t) - b.get(t);
            }
        }
        return 0;
    }

    int ways() {
        Map<List<Integer>, BigInteger> level = new TreeMap<>(Model::compare);
        level.put(List.of(0, 0, 0, 0), BigInteger.ONE);
        int actions = end().stream().mapToInt(Integer::intValue).sum();
        for (int n = 0; n < actions; n++) {
            Map<List<Integer>, BigInteger> next = new TreeMap<>(Model::compare);
            level.forEach((state, ways) -> after(state).forEach(then -> next.merge(then, ways, BigInteger::add)));
            level = next;
        }
        return level.getOrDefault(end(), BigInteger.ZERO).mod(BigInteger.valueOf(1000003)).intValue();
    }

    private List<Request> requests() {
        List<Request> found = new ArrayList<>();
        for (int t = 0; t < 4; t++) {
            for (int k = 0; k < rows.get(t).size(); k++) {
                Action action = rows.get(t).get(k);
                Set<Integer> held = held(t, k);
                if (action.taking() && !held.isEmpty()) {
                    found.add(new Request(t, k, action.lock(), held));
                }
            }
        }
        return found;
    }

    private Set<Set<Request>> ringSets() {
        Set<Set<Request>> found = new HashSet<>();
        lookForRings(requests(), new ArrayList<>(), found);
        return found;
    }

    /** Goes through all orders of requests of different threads; a set counts once for all of its orders. */
    private static void lookForRings(List<Request> all, List<Request> order, Set<Set<Request>> found) {
        if (order.size() >= 2 && closes(order) && sharesNoLock(order)) {
            found.add(new HashSet<>(order));
        }
        for (Request next : all) {
            if (order.stream().noneMatch(r -> r.thread() == next.thread())) {
                order.add(next);
                lookForRings(all, order, found);
                order.remove(order.size() - 1);
            }
        }
    }

    private static boolean closes(List<Request> order) {
        for (int i = 0; i < order.size(); i++) {
            if (!order.get((i + 1) % order.size()).held().contains(order.get(i).lock())) {
                return false;
            }
        }
        return true;
    }

    private static boolean sharesNoLock(List<Request> requests) {
        Set<Integer> seen = new HashSet<>();
        for (Request r : requests) {
            for (int lock : r.held()) {
                if (!seen.add(lock)) {
                    return false;
                }
            }
        }
        return true;
    }

    private static boolean isMet(Set<Request> ring, List<Integer> state) {
        return ring.stream().allMatch(r -> state.get(r.thread()) == r.before());
    }

    int rings() {
        return ringSets().size();
    }

    int ringsMet() {
        Set<List<Integer>> states = reached();
        return (int) ringSets().stream().filter(ring -> states.stream().anyMatch(s -> isMet(ring, s))).count();
    }

    private List<List<Integer>> metStates() {
        Set<Set<Request>> rings = ringSets();
        return reached().stream().filter(s -> rings.stream().anyMatch(ring -> isMet(ring, s))).toList();
    }

    int statesMet() {
        return metStates().size();
    }

    int soonest() {
        return metStates().stream().mapToInt(s -> s.stream().mapToInt(Integer::intValue).sum()).min().orElse(-4);
    }

    @Override
    public String toString() {
        StringBuilder text = new StringBuilder();
        for (List<Action> row : rows) {
            text.append('[');
            row.forEach(a -> text.append(a.taking() ? '+' : '-').append(a.lock()));
            text.append(']');
        }
        return text.toString();
    }
}
