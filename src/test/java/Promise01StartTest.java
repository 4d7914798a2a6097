/** Promise 1: construction and the start. */
public final class Promise01StartTest {
    private static final int[] TOO_SMALL = {Integer.MIN_VALUE, Integer.MIN_VALUE + 1, -256, -5, -1, 0};

    public static void main(String[] args) {
        Checks.sentence("CoreEnumerator(int variables, int capacity) accepts every pair of ints.",
                Promise01StartTest::everyPairMakesAWorkingObject);
        Checks.sentence("V is variables clamped into 1 .. 5 and C is capacity clamped into 1 .. 8",
                Promise01StartTest::bothArgumentsAreClamped);
        Checks.sentence("a value below the least becomes the least",
                Promise01StartTest::tooFewVariablesBecomeOne, Promise01StartTest::tooFewSlotsBecomeOne);
        Checks.sentence("one above the greatest becomes the greatest",
                Promise01StartTest::tooManyVariablesBecomeFive, Promise01StartTest::tooManySlotsBecomeEight);
        Checks.sentence("a value in the range is kept.",
                Promise01StartTest::variablesInTheRangeAreKept, Promise01StartTest::slotsInTheRangeAreKept);
        Checks.sentence("V and C never change afterwards.", Promise01StartTest::theyNeverChange);
        Checks.sentence("At the start all slots are empty, so F is 0, and the object is not ready.",
                Promise01StartTest::everySlotStartsEmpty, Promise01StartTest::startsNotReady,
                Promise01StartTest::startsSoBesideOtherObjects);
        Checks.finish();
    }

    private static void everyPairMakesAWorkingObject() {
        for (int variables : Checks.PROBES) {
            for (int capacity : Checks.PROBES) {
                CoreEnumerator x = Checks.object(variables, capacity, Checks.soft(-1, 1, 0));
                Checks.dueLists(x, Checks.masks(), Checks.masks(1));
                Checks.due("removeClause(0)", x.removeClause(0), CoreEnumerator.DONE);
            }
        }
    }

    private static void bothArgumentsAreClamped() {
        int[] given = {Integer.MIN_VALUE, -7, -1, 0, 1, 2, 3, 4, 5, 6, 7, 8, 9, 10, 99, Integer.MAX_VALUE};
        int[] dueVariables = {1, 1, 1, 1, 1, 2, 3, 4, 5, 5, 5, 5, 5, 5, 5, 5};
        int[] dueCapacity = {1, 1, 1, 1, 1, 2, 3, 4, 5, 6, 7, 8, 8, 8, 8, 8};
        for (int i = 0; i < given.length; i++) {
            for (int j = 0; j < given.length; j++) {
                CoreEnumerator x = new CoreEnumerator(given[i], given[j]);
                String made = " of (" + given[i] + ", " + given[j] + ")";
                Checks.due("variables()" + made, x.variables(), dueVariables[i]);
                Checks.due("capacity()" + made, x.capacity(), dueCapacity[j]);
            }
        }
    }

    private static void tooFewVariablesBecomeOne() {
        for (int given : TOO_SMALL) {
            dueVariables(given, 1);
        }
    }

    private static void tooFewSlotsBecomeOne() {
        for (int given : TOO_SMALL) {
            dueCapacity(given, 1);
        }
    }

    private static void tooManyVariablesBecomeFive() {
        for (int given : new int[] {6, 7, 8, 9, 32, 33, 256, 257, Integer.MAX_VALUE - 1, Integer.MAX_VALUE}) {
            dueVariables(given, 5);
        }
    }

    private static void tooManySlotsBecomeEight() {
        for (int given : new int[] {9, 10, 32, 33, 256, 257, Integer.MAX_VALUE - 1, Integer.MAX_VALUE}) {
            dueCapacity(given, 8);
        }
    }

    private static void variablesInTheRangeAreKept() {
        for (int given = 1; given <= 5; given++) {
            dueVariables(given, given);
        }
    }

    private static void slotsInTheRangeAreKept() {
        for (int given = 1; given <= 8; given++) {
            dueCapacity(given, given);
        }
    }

    private static void theyNeverChange() {
        for (State state : State.all()) {
            dueSizes(state);
            state.x.enumerate();
            state.x.emit(CoreEnumerator.CORE);
            state.x.emit(CoreEnumerator.MAXIMAL);
            dueSizes(state);
            for (int slot = 0; slot < 8; slot++) {
                state.x.setKind(slot, CoreEnumerator.HARD);
                state.x.removeClause(slot);
            }
            dueSizes(state);
            for (int slot = 0; slot < state.capacity; slot++) {
                Checks.add(state.x, slot, CoreEnumerator.SOFT, state.variables, 0, -state.variables);
            }
            dueSizes(state);
        }
    }

    private static void everySlotStartsEmpty() {
        for (int capacity = 1; capacity <= 8; capacity++) {
            CoreEnumerator x = new CoreEnumerator(5, capacity);
            Checks.dueSlots(x, 0, 0);
            for (int slot = 0; slot < 8; slot++) {
                Checks.due("literal(" + slot + ", 0)", x.literal(slot, 0), CoreEnumerator.BAD_SLOT);
            }
            Checks.due("witness(0)", x.witness(0), 0);
            Checks.due("witness(1)", x.witness(1), CoreEnumerator.BAD_MASK);
        }
    }

    private static void startsNotReady() {
        for (int variables : Checks.PROBES) {
            Checks.dueNotReady(new CoreEnumerator(variables, 4), "at the start");
            Checks.dueNotReady(new CoreEnumerator(3, variables), "at the start");
        }
        Checks.dueNotReady(new CoreEnumerator(Integer.MIN_VALUE, Integer.MAX_VALUE), "at the start");
    }

    private static void startsSoBesideOtherObjects() {
        CoreEnumerator full = Checks.halfEmittedExample();
        String before = Checks.observe(full);
        CoreEnumerator other = new CoreEnumerator(2, 2);
        Checks.dueNotReady(other, "beside a ready object");
        Checks.dueSlots(other, 0, 0);
        Checks.add(other, 0, CoreEnumerator.HARD, 2, 2, 2);
        other.enumerate();
        other.emit(CoreEnumerator.MAXIMAL);
        Checks.dueEqual("the first object", Checks.observe(full), before);
    }

    private static void dueSizes(State state) {
        Checks.due(state.name + "variables()", state.x.variables(), state.variables);
        Checks.due(state.name + "capacity()", state.x.capacity(), state.capacity);
    }

    /** Not only what the object says of itself: the literals that it takes tell it too. */
    private static void dueVariables(int given, int due) {
        CoreEnumerator x = new CoreEnumerator(given, 3);
        Checks.due("variables() of " + given, x.variables(), due);
        Checks.add(x, 0, CoreEnumerator.SOFT, due, 0, 0);
        Checks.add(x, 1, CoreEnumerator.SOFT, -due, 0, 0);
        Checks.due("literal V+1", x.addClause(0, due + 1, 0, 0), CoreEnumerator.BAD_LITERAL);
        Checks.due("literal -V-1", x.addClause(0, -due - 1, 0, 0), CoreEnumerator.BAD_LITERAL);
    }

    private static void dueCapacity(int given, int due) {
        CoreEnumerator x = new CoreEnumerator(3, given);
        Checks.due("capacity() of " + given, x.capacity(), due);
        for (int slot = 0; slot < due; slot++) {
            Checks.add(x, slot, CoreEnumerator.HARD, 1, 0, 0);
        }
        Checks.due("clause C+1", x.addClause(CoreEnumerator.HARD, 1, 0, 0), CoreEnumerator.FULL);
    }
}
