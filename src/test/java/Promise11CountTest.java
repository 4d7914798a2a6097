/** Promise 11: the length of a list. */
public final class Promise11CountTest {
    public static void main(String[] args) {
        emittingDoesNotChangeIt();
        emptyLists();
        badKindComesBeforeNotReady();
        notReadyIsRefused();
        Checks.finish();
    }

    private static void emittingDoesNotChangeIt() {
        CoreEnumerator x = Checks.example();
        x.enumerate();
        for (int i = 0; i < 5; i++) {
            dueCounts(x, 2, 3);
            x.emit(CoreEnumerator.CORE);
            dueCounts(x, 2, 3);
            x.emit(CoreEnumerator.MAXIMAL);
        }
        dueCounts(x, 2, 3);
    }

    private static void emptyLists() {
        CoreEnumerator x = new CoreEnumerator(1, 1);
        x.enumerate();
        dueCounts(x, 0, 1);
        Checks.add(x, 0, CoreEnumerator.HARD, 0, 0, 0);
        x.enumerate();
        dueCounts(x, 1, 0);
    }

    private static void badKindComesBeforeNotReady() {
        CoreEnumerator unready = Checks.example();
        CoreEnumerator ready = Checks.halfEmittedExample();
        for (int far : Checks.FAR_INTS) {
            dueCount(unready, far, CoreEnumerator.BAD_KIND);
            dueCount(ready, far, CoreEnumerator.BAD_KIND);
        }
        for (int list : new int[] {CoreEnumerator.SOFT, CoreEnumerator.HARD, 4}) {
            dueCount(unready, list, CoreEnumerator.BAD_KIND);
            dueCount(ready, list, CoreEnumerator.BAD_KIND);
        }
    }

    private static void notReadyIsRefused() {
        CoreEnumerator x = Checks.halfEmittedExample();
        x.removeClause(3);
        dueCounts(x, CoreEnumerator.NOT_READY, CoreEnumerator.NOT_READY);
        x.enumerate();
        dueCounts(x, 1, 2);
    }

    private static void dueCounts(CoreEnumerator x, int cores, int maximals) {
        dueCount(x, CoreEnumerator.CORE, cores);
        dueCount(x, CoreEnumerator.MAXIMAL, maximals);
    }

    private static void dueCount(CoreEnumerator x, int list, int due) {
        Checks.dueUnchanged(x, "count(" + list + ")", () -> x.count(list), due);
    }
}
