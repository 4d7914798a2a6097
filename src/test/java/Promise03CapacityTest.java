/** Promise 3: the number of slots. */
public final class Promise03CapacityTest {
    public static void main(String[] args) {
        for (int given = -1; given <= 10; given++) {
            staysInEveryState(given, Math.max(1, Math.min(8, given)));
        }
        Checks.finish();
    }

    private static void staysInEveryState(int given, int due) {
        CoreEnumerator x = new CoreEnumerator(3, given);
        for (int slot = 0; slot < due; slot++) {
            dueCapacity(x, "with " + slot + " clauses", due);
            Checks.add(x, slot, slot & 1, 1, 0, 0);
        }
        dueCapacity(x, "when full", due);
        Checks.due("addClause when full", x.addClause(CoreEnumerator.SOFT, 1, 0, 0), CoreEnumerator.FULL);
        dueCapacity(x, "after FULL", due);
        x.enumerate();
        dueCapacity(x, "when ready", due);
        x.emit(CoreEnumerator.MAXIMAL);
        dueCapacity(x, "after emitting", due);
        x.removeClause(0);
        dueCapacity(x, "after removing", due);
    }

    private static void dueCapacity(CoreEnumerator x, String when, int due) {
        Checks.dueUnchanged(x, "capacity() " + when, x::capacity, due);
    }
}
