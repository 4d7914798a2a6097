/** Promise 13: the emission number. */
public final class Promise13EmittedTest {
    public static void main(String[] args) {
        countsUpToTheLength();
        startsAgainAtZero();
        refusals();
        Checks.finish();
    }

    private static void countsUpToTheLength() {
        CoreEnumerator x = Checks.example();
        x.enumerate();
        dueNumbers(x, 0, 0);
        for (int i = 1; i <= 5; i++) {
            x.emit(CoreEnumerator.MAXIMAL);
            dueNumbers(x, 0, Math.min(3, i));
        }
        for (int i = 1; i <= 5; i++) {
            x.emit(CoreEnumerator.CORE);
            dueNumbers(x, Math.min(2, i), 3);
        }
    }

    private static void startsAgainAtZero() {
        CoreEnumerator x = Checks.halfEmittedExample();
        dueNumbers(x, 1, 1);
        x.enumerate();
        dueNumbers(x, 0, 0);
        x.emit(CoreEnumerator.CORE);
        x.removeClause(3);
        dueNumbers(x, CoreEnumerator.NOT_READY, CoreEnumerator.NOT_READY);
        x.enumerate();
        dueNumbers(x, 0, 0);
    }

    private static void refusals() {
        CoreEnumerator unready = Checks.example();
        CoreEnumerator ready = Checks.halfEmittedExample();
        dueNumbers(unready, CoreEnumerator.NOT_READY, CoreEnumerator.NOT_READY);
        for (int far : Checks.FAR_INTS) {
            dueEmitted(unready, far, CoreEnumerator.BAD_KIND);
            dueEmitted(ready, far, CoreEnumerator.BAD_KIND);
        }
        for (int list : new int[] {CoreEnumerator.SOFT, CoreEnumerator.HARD, 4}) {
            dueEmitted(unready, list, CoreEnumerator.BAD_KIND);
            dueEmitted(ready, list, CoreEnumerator.BAD_KIND);
        }
    }

    private static void dueNumbers(CoreEnumerator x, int cores, int maximals) {
        dueEmitted(x, CoreEnumerator.CORE, cores);
        dueEmitted(x, CoreEnumerator.MAXIMAL, maximals);
    }

    private static void dueEmitted(CoreEnumerator x, int list, int due) {
        Checks.dueUnchanged(x, "emitted(" + list + ")", () -> x.emitted(list), due);
    }
}
