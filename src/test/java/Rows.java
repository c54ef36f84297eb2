/** Fills threads with actions from a short text: "+0 -0" takes lock 0 and gives it. */
final class Rows {
    private Rows() {
    }

    static LockOrders of(String... rows) {
        LockOrders x = new LockOrders();
        for (int t = 0; t < rows.length; t++) {
            put(x, t, rows[t]);
        }
        return x;
    }

    static void put(LockOrders x, int t, String row) {
        for (String word : row.split(" ")) {
            if (!word.isEmpty()) {
                int lock = word.charAt(1) - '0';
                int answer = word.charAt(0) == '+' ? x.take(t, lock) : x.give(t, lock);
                if (answer < 1) {
                    throw new IllegalStateException("thread " + t + ": " + word + " was refused with " + answer);
                }
            }
        }
    }
}
