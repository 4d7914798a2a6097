/** Promise 12: emitting the next mask. */
public final class Promise12EmitTest {
    public static void main(String[] args) {
        everyInterleaving();
        theEmptySetIsEmitted();
        changesOnlyItsOwnNumber();
        refusals();
        Checks.finish();
    }

    /** The bits of an order say, lowest first, from which list to emit. */
    private static void everyInterleaving() {
        int[] cores = {3, 13, CoreEnumerator.NONE};
        int[] maximals = {14, 9, 5, CoreEnumerator.NONE};
        CoreEnumerator x = Checks.example();
        for (int order = 0; order < 256; order++) {
            x.enumerate();
            int nextCore = 0;
            int nextMaximal = 0;
            for (int step = 0; step < 8; step++) {
                String call = "emit in order " + order + " at step " + step;
                if ((order >> step & 1) == 0) {
                    Checks.due(call, x.emit(CoreEnumerator.CORE), cores[nextCore]);
                    nextCore = Math.min(2, nextCore + 1);
                } else {
                    Checks.due(call, x.emit(CoreEnumerator.MAXIMAL), maximals[nextMaximal]);
                    nextMaximal = Math.min(3, nextMaximal + 1);
                }
                Checks.due("emitted(CORE) after " + call, x.emitted(CoreEnumerator.CORE), nextCore);
                Checks.due("emitted(MAXIMAL) after " + call, x.emitted(CoreEnumerator.MAXIMAL), nextMaximal);
            }
        }
    }

    private static void theEmptySetIsEmitted() {
        CoreEnumerator x = new CoreEnumerator(1, 1);
        x.enumerate();
        Checks.dueEmissions(x, CoreEnumerator.CORE);
        Checks.dueEmissions(x, CoreEnumerator.MAXIMAL, 0);
        Checks.add(x, 0, CoreEnumerator.HARD, 0, 0, 0);
        x.enumerate();
        Checks.dueEmissions(x, CoreEnumerator.CORE, 0);
        Checks.dueEmissions(x, CoreEnumerator.MAXIMAL);
    }

    private static void changesOnlyItsOwnNumber() {
        CoreEnumerator x = Checks.example();
        x.setKind(2, CoreEnumerator.HARD);
        Checks.due("enumerate()", x.enumerate(), 4);
        Checks.dueEmissions(x, CoreEnumerator.CORE, 3, 9);
        Checks.due("slots(SOFT)", x.slots(CoreEnumerator.SOFT), 11);
        Checks.due("slots(HARD)", x.slots(CoreEnumerator.HARD), 4);
        Checks.due("literal(3, 1)", x.literal(3, 1), -2);
        Checks.due("count(CORE)", x.count(CoreEnumerator.CORE), 2);
        Checks.due("count(MAXIMAL)", x.count(CoreEnumerator.MAXIMAL), 2);
        Checks.due("emitted(MAXIMAL)", x.emitted(CoreEnumerator.MAXIMAL), 0);
        Checks.dueEmissions(x, CoreEnumerator.MAXIMAL, 10, 1);
    }

    private static void refusals() {
        CoreEnumerator unready = Checks.example();
        CoreEnumerator ready = Checks.halfEmittedExample();
        for (int far : Checks.FAR_INTS) {
            refused(unready, far, CoreEnumerator.BAD_KIND);
            refused(ready, far, CoreEnumerator.BAD_KIND);
        }
        for (int list : new int[] {CoreEnumerator.SOFT, CoreEnumerator.HARD, 4}) {
            refused(unready, list, CoreEnumerator.BAD_KIND);
            refused(ready, list, CoreEnumerator.BAD_KIND);
        }
        refused(unready, CoreEnumerator.CORE, CoreEnumerator.NOT_READY);
        refused(unready, CoreEnumerator.MAXIMAL, CoreEnumerator.NOT_READY);
        Checks.dueEmissions(ready, CoreEnumerator.CORE, 13);
        refused(ready, CoreEnumerator.CORE, CoreEnumerator.NONE);
        Checks.dueEmissions(ready, CoreEnumerator.MAXIMAL, 9, 5);
        refused(ready, CoreEnumerator.MAXIMAL, CoreEnumerator.NONE);
        refused(ready, CoreEnumerator.SOFT, CoreEnumerator.BAD_KIND);
        ready.removeClause(0);
        refused(ready, CoreEnumerator.CORE, CoreEnumerator.NOT_READY);
    }

    private static void refused(CoreEnumerator x, int list, int due) {
        Checks.dueUnchanged(x, "emit(" + list + ")", () -> x.emit(list), due);
    }
}
