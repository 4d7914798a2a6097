/** Promise 3: the number of slots. */
public final class Promise03CapacityTest {
    public static void main(String[] args) {
        Checks.sentence("capacity() answers C, the clamped value, in every state, however many slots are occupied.",
                Promise03CapacityTest::everyClampedValueStays);
        Checks.sentence("It is never refused and changes nothing.",
                Promise03CapacityTest::neverRefused, () -> State.dueNoTrace(state -> state.x.capacity()));
        Checks.finish();
    }

    private static void everyClampedValueStays() {
        for (int given = -1; given <= 10; given++) {
            staysHoweverManyAreOccupied(given, Math.max(1, Math.min(8, given)));
        }
        staysHoweverManyAreOccupied(Integer.MIN_VALUE, 1);
        staysHoweverManyAreOccupied(Integer.MAX_VALUE, 8);
    }

    private static void staysHoweverManyAreOccupied(int given, int due) {
        CoreEnumerator x = new CoreEnumerator(3, given);
        for (int slot = 0; slot < due; slot++) {
            dueCapacity(x, "with " + slot + " clauses", due);
            Checks.add(x, slot, slot & 1, 1, 0, 0);
        }
        dueCapacity(x, "when full", due);
        Checks.due("addClause when full", x.addClause(CoreEnumerator.SOFT, 1, 0, 0), CoreEnumerator.FULL);
        dueCapacity(x, "after FULL", due);
        x.enumerate();
        dueCapacity(x, "when ready", due);
        x.emit(CoreEnumerator.MAXIMAL);
        dueCapacity(x, "after emitting", due);
        for (int slot = 0; slot < due; slot++) {
            x.removeClause(slot);
            dueCapacity(x, "after removing " + slot, due);
        }
    }

    private static void neverRefused() {
        for (State state : State.all()) {
            dueCapacity(state.x, state.name, state.capacity);
        }
    }

    private static void dueCapacity(CoreEnumerator x, String when, int due) {
        Checks.dueUnchanged(x, "capacity() " + when, x::capacity, due);
    }
}
