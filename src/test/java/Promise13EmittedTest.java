/** Promise 13: the emission number. */
public final class Promise13EmittedTest {
    public static void main(String[] args) {
        Checks.sentence("BAD_KIND if list is neither CORE nor MAXIMAL.",
                () -> State.eachBadList((state, list) -> dueNumber(state.x, list, CoreEnumerator.BAD_KIND)));
        Checks.sentence("NOT_READY if the object is not ready.", Promise13EmittedTest::notReadyIsRefused);
        Checks.sentence("in this order:", Promise13EmittedTest::badKindComesBeforeNotReady);
        Checks.sentence("Otherwise it answers the emission number of that list: 0 right after enumerate,"
                + " at most the length of the list.",
                Promise13EmittedTest::zeroAfterEnumerate, Promise13EmittedTest::countsUpToTheLength,
                Promise13EmittedTest::staysZeroForAnEmptyList, Promise13EmittedTest::startsAgainAtZero);
        Checks.sentence("It changes nothing.",
                () -> State.dueNoTrace(state -> state.x.emitted(CoreEnumerator.CORE)),
                () -> State.dueNoTrace(state -> state.x.emitted(CoreEnumerator.MAXIMAL)));
        Checks.finish();
    }

    private static void notReadyIsRefused() {
        for (State state : State.notReady()) {
            dueNumbers(state.x, CoreEnumerator.NOT_READY, CoreEnumerator.NOT_READY);
        }
    }

    private static void badKindComesBeforeNotReady() {
        CoreEnumerator x = Checks.example();
        for (int list : Checks.NO_LISTS) {
            dueNumber(x, list, CoreEnumerator.BAD_KIND);
        }
        dueNumbers(x, CoreEnumerator.NOT_READY, CoreEnumerator.NOT_READY);
    }

    private static void zeroAfterEnumerate() {
        for (State state : State.all()) {
            state.x.enumerate();
            dueNumbers(state.x, 0, 0);
        }
    }

    private static void countsUpToTheLength() {
        CoreEnumerator x = Checks.example();
        x.enumerate();
        dueNumbers(x, 0, 0);
        for (int i = 1; i <= 300; i++) {
            x.emit(CoreEnumerator.MAXIMAL);
            dueNumbers(x, 0, Math.min(3, i));
        }
        for (int i = 1; i <= 300; i++) {
            x.emit(CoreEnumerator.CORE);
            dueNumbers(x, Math.min(2, i), 3);
        }
    }

    private static void staysZeroForAnEmptyList() {
        CoreEnumerator x = new CoreEnumerator(1, 1);
        x.enumerate();
        x.emit(CoreEnumerator.CORE);
        dueNumbers(x, 0, 0);
        Checks.add(x, 0, CoreEnumerator.HARD, 0, 0, 0);
        x.enumerate();
        x.emit(CoreEnumerator.MAXIMAL);
        dueNumbers(x, 0, 0);
    }

    private static void startsAgainAtZero() {
        CoreEnumerator x = Checks.halfEmittedExample();
        dueNumbers(x, 1, 1);
        x.enumerate();
        dueNumbers(x, 0, 0);
        x.emit(CoreEnumerator.CORE);
        x.removeClause(3);
        dueNumbers(x, CoreEnumerator.NOT_READY, CoreEnumerator.NOT_READY);
        x.enumerate();
        dueNumbers(x, 0, 0);
    }

    private static void dueNumbers(CoreEnumerator x, int cores, int maximals) {
        dueNumber(x, CoreEnumerator.CORE, cores);
        dueNumber(x, CoreEnumerator.MAXIMAL, maximals);
    }

    private static void dueNumber(CoreEnumerator x, int list, int due) {
        Checks.dueUnchanged(x, "emitted(" + list + ")", () -> x.emitted(list), due);
    }
}
