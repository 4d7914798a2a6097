/** Promise 1: construction and the start. */
public final class Promise01StartTest {
    public static void main(String[] args) {
        bothArgumentsAreClamped();
        everySlotStartsEmpty();
        startsNotReady();
        objectsAreIndependent();
        Checks.finish();
    }

    private static void bothArgumentsAreClamped() {
        int[] given = {Integer.MIN_VALUE, -7, -1, 0, 1, 2, 3, 4, 5, 6, 7, 8, 9, 10, 99, Integer.MAX_VALUE};
        int[] dueVariables = {1, 1, 1, 1, 1, 2, 3, 4, 5, 5, 5, 5, 5, 5, 5, 5};
        int[] dueCapacity = {1, 1, 1, 1, 1, 2, 3, 4, 5, 6, 7, 8, 8, 8, 8, 8};
        for (int i = 0; i < given.length; i++) {
            for (int j = 0; j < given.length; j++) {
                CoreEnumerator x = new CoreEnumerator(given[i], given[j]);
                String made = " of (" + given[i] + ", " + given[j] + ")";
                Checks.due("variables()" + made, x.variables(), dueVariables[i]);
                Checks.due("capacity()" + made, x.capacity(), dueCapacity[j]);
            }
        }
    }

    private static void everySlotStartsEmpty() {
        for (int capacity = 1; capacity <= 8; capacity++) {
            CoreEnumerator x = new CoreEnumerator(5, capacity);
            Checks.due("slots(SOFT)", x.slots(CoreEnumerator.SOFT), 0);
            Checks.due("slots(HARD)", x.slots(CoreEnumerator.HARD), 0);
            for (int slot = 0; slot < 8; slot++) {
                Checks.due("literal(" + slot + ", 0)", x.literal(slot, 0), CoreEnumerator.BAD_SLOT);
            }
            Checks.due("witness(0)", x.witness(0), 0);
            Checks.due("witness(1)", x.witness(1), CoreEnumerator.BAD_MASK);
        }
    }

    private static void startsNotReady() {
        Checks.dueNotReady(new CoreEnumerator(3, 4), "at the start");
        Checks.dueNotReady(new CoreEnumerator(Integer.MIN_VALUE, Integer.MAX_VALUE), "at the start");
    }

    private static void objectsAreIndependent() {
        CoreEnumerator full = Checks.halfEmittedExample();
        String before = Checks.observe(full);
        CoreEnumerator other = new CoreEnumerator(2, 2);
        Checks.dueNotReady(other, "beside a ready object");
        Checks.add(other, 0, CoreEnumerator.HARD, 2, 2, 2);
        other.enumerate();
        other.emit(CoreEnumerator.MAXIMAL);
        if (!before.equals(Checks.observe(full))) {
            Checks.report("calls on one object changed another");
        }
    }
}
