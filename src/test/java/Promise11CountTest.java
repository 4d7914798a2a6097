/** Promise 11: the length of a list. */
public final class Promise11CountTest {
    public static void main(String[] args) {
        Checks.sentence("BAD_KIND if list is neither CORE nor MAXIMAL.",
                () -> State.eachBadList((state, list) -> dueCount(state.x, list, CoreEnumerator.BAD_KIND)));
        Checks.sentence("NOT_READY if the object is not ready.", Promise11CountTest::notReadyIsRefused);
        Checks.sentence("in this order:", Promise11CountTest::badKindComesBeforeNotReady);
        Checks.sentence("Otherwise it answers the length of the list of that kind, 0 if that list is empty.",
                Promise11CountTest::answersTheLength, Promise11CountTest::noCore, Promise11CountTest::noMaximal);
        Checks.sentence("The length includes emitted and not yet emitted masks, so it does not change by emitting.",
                Promise11CountTest::emittingDoesNotChangeIt);
        Checks.sentence("The call changes nothing.",
                () -> State.dueNoTrace(state -> state.x.count(CoreEnumerator.CORE)),
                () -> State.dueNoTrace(state -> state.x.count(CoreEnumerator.MAXIMAL)));
        Checks.finish();
    }

    private static void notReadyIsRefused() {
        for (State state : State.notReady()) {
            dueCounts(state.x, CoreEnumerator.NOT_READY, CoreEnumerator.NOT_READY);
        }
        CoreEnumerator x = Checks.halfEmittedExample();
        x.removeClause(3);
        dueCounts(x, CoreEnumerator.NOT_READY, CoreEnumerator.NOT_READY);
        x.enumerate();
        dueCounts(x, 1, 2);
    }

    private static void badKindComesBeforeNotReady() {
        CoreEnumerator x = new CoreEnumerator(1, 1);
        for (int list : Checks.NO_LISTS) {
            dueCount(x, list, CoreEnumerator.BAD_KIND);
        }
        dueCounts(x, CoreEnumerator.NOT_READY, CoreEnumerator.NOT_READY);
    }

    private static void answersTheLength() {
        CoreEnumerator x = Checks.example();
        x.enumerate();
        dueCounts(x, 2, 3);
        x.setKind(0, CoreEnumerator.HARD);
        x.enumerate();
        dueCounts(x, 2, 2);
        x.removeClause(1);
        x.enumerate();
        dueCounts(x, 1, 2);
    }

    private static void noCore() {
        CoreEnumerator x = new CoreEnumerator(1, 1);
        x.enumerate();
        dueCounts(x, 0, 1);
        Checks.add(x, 0, CoreEnumerator.SOFT, 1, 0, 0);
        x.enumerate();
        dueCounts(x, 0, 1);
    }

    private static void noMaximal() {
        CoreEnumerator x = Checks.object(1, 2, Checks.hard(0, 0, 0), Checks.soft(1, 0, 0));
        x.enumerate();
        dueCounts(x, 1, 0);
        x.emit(CoreEnumerator.CORE);
        dueCounts(x, 1, 0);
    }

    private static void emittingDoesNotChangeIt() {
        CoreEnumerator x = Checks.example();
        x.enumerate();
        for (int i = 0; i < 5; i++) {
            dueCounts(x, 2, 3);
            x.emit(CoreEnumerator.CORE);
            dueCounts(x, 2, 3);
            x.emit(CoreEnumerator.MAXIMAL);
        }
        dueCounts(x, 2, 3);
    }

    private static void dueCounts(CoreEnumerator x, int cores, int maximals) {
        dueCount(x, CoreEnumerator.CORE, cores);
        dueCount(x, CoreEnumerator.MAXIMAL, maximals);
    }

    private static void dueCount(CoreEnumerator x, int list, int due) {
        Checks.dueUnchanged(x, "count(" + list + ")", () -> x.count(list), due);
    }
}
