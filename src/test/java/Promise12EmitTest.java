/** Promise 12: emitting the next mask. */
public final class Promise12EmitTest {
    public static void main(String[] args) {
        Checks.sentence("BAD_KIND if list is neither CORE nor MAXIMAL.",
                () -> State.eachBadList((state, list) -> refused(state.x, list, CoreEnumerator.BAD_KIND)));
        Checks.sentence("NOT_READY if the object is not ready.", Promise12EmitTest::notReadyIsRefused);
        Checks.sentence("NONE if the emission number of that list is equal to its length"
                + " (so also if the list is empty).",
                Promise12EmitTest::noneAtTheEnd, Promise12EmitTest::noneWithoutCores,
                Promise12EmitTest::noneWithoutMaximals);
        Checks.sentence("in this order:",
                Promise12EmitTest::badKindComesBeforeNotReady, Promise12EmitTest::notReadyComesBeforeNone,
                Promise12EmitTest::badKindComesBeforeNone);
        Checks.sentence("Otherwise it answers the mask in that list that has as many masks before it"
                + " as the emission number says, and raises that emission number by 1.",
                Promise12EmitTest::answersByTheEmissionNumber);
        Checks.sentence("That mask is now emitted.", Promise12EmitTest::theMaskIsEmitted);
        Checks.sentence("So after enumerate successive calls give the cores in rising order and the maximals"
                + " in falling order of their masks, each once, and then NONE.",
                Promise12EmitTest::coresRiseOnce, Promise12EmitTest::maximalsFallOnce);
        Checks.sentence("The two lists can be emitted in any interleaving:"
                + " the emission number of the other list does not change.", Promise12EmitTest::everyInterleaving);
        Checks.sentence("The lists themselves, the slots, clauses and kinds, and the readiness do not change either.",
                Promise12EmitTest::changesOnlyItsOwnNumber, Promise12EmitTest::clausesStayInEveryState);
        Checks.sentence("An answer of 0 is the empty set.",
                Promise12EmitTest::theEmptyMaximal, Promise12EmitTest::theEmptyCore);
        Checks.finish();
    }

    private static void notReadyIsRefused() {
        for (State state : State.notReady()) {
            refuseBoth(state.x, CoreEnumerator.NOT_READY);
        }
        CoreEnumerator x = Checks.halfEmittedExample();
        x.setKind(0, CoreEnumerator.HARD);
        refuseBoth(x, CoreEnumerator.NOT_READY);
    }

    private static void noneAtTheEnd() {
        CoreEnumerator x = Checks.halfEmittedExample();
        Checks.dueEmissions(x, CoreEnumerator.CORE, 13);
        for (int i = 0; i < 300; i++) {
            refused(x, CoreEnumerator.CORE, CoreEnumerator.NONE);
        }
        Checks.dueEmitted(x, 2, 1);
        Checks.dueEmissions(x, CoreEnumerator.MAXIMAL, 9, 5);
        for (int i = 0; i < 300; i++) {
            refuseBoth(x, CoreEnumerator.NONE);
        }
        Checks.dueEmitted(x, 2, 3);
    }

    private static void noneWithoutCores() {
        CoreEnumerator x = new CoreEnumerator(1, 1);
        x.enumerate();
        refused(x, CoreEnumerator.CORE, CoreEnumerator.NONE);
        Checks.add(x, 0, CoreEnumerator.SOFT, 1, 0, 0);
        x.enumerate();
        refused(x, CoreEnumerator.CORE, CoreEnumerator.NONE);
        Checks.due("emit(MAXIMAL)", x.emit(CoreEnumerator.MAXIMAL), 1);
        refused(x, CoreEnumerator.CORE, CoreEnumerator.NONE);
    }

    private static void noneWithoutMaximals() {
        CoreEnumerator x = Checks.object(1, 2, Checks.hard(0, 0, 0), Checks.soft(1, 0, 0));
        x.enumerate();
        refused(x, CoreEnumerator.MAXIMAL, CoreEnumerator.NONE);
        Checks.due("emit(CORE)", x.emit(CoreEnumerator.CORE), 0);
        refused(x, CoreEnumerator.MAXIMAL, CoreEnumerator.NONE);
    }

    private static void badKindComesBeforeNotReady() {
        CoreEnumerator x = Checks.example();
        for (int list : Checks.NO_LISTS) {
            refused(x, list, CoreEnumerator.BAD_KIND);
        }
    }

    /** The lists of these objects are empty or emitted to the end. */
    private static void notReadyComesBeforeNone() {
        refuseBoth(new CoreEnumerator(1, 1), CoreEnumerator.NOT_READY);
        CoreEnumerator x = Checks.halfEmittedExample();
        Checks.dueEmissions(x, CoreEnumerator.CORE, 13);
        Checks.dueEmissions(x, CoreEnumerator.MAXIMAL, 9, 5);
        x.removeClause(0);
        refuseBoth(x, CoreEnumerator.NOT_READY);
    }

    private static void badKindComesBeforeNone() {
        CoreEnumerator x = new CoreEnumerator(1, 1);
        x.enumerate();
        x.emit(CoreEnumerator.MAXIMAL);
        refuseBoth(x, CoreEnumerator.NONE);
        for (int list : Checks.NO_LISTS) {
            refused(x, list, CoreEnumerator.BAD_KIND);
        }
    }

    private static void answersByTheEmissionNumber() {
        int[] cores = {3, 13};
        int[] maximals = {14, 9, 5};
        CoreEnumerator x = Checks.example();
        x.enumerate();
        for (int i = 0; i < 2; i++) {
            Checks.due("emit(CORE)", x.emit(CoreEnumerator.CORE), cores[i]);
            Checks.dueEmitted(x, i + 1, 0);
        }
        for (int i = 0; i < 3; i++) {
            Checks.due("emit(MAXIMAL)", x.emit(CoreEnumerator.MAXIMAL), maximals[i]);
            Checks.dueEmitted(x, 2, i + 1);
        }
    }

    private static void theMaskIsEmitted() {
        CoreEnumerator x = Checks.example();
        x.enumerate();
        Checks.due("verdict(3)", x.verdict(3), CoreEnumerator.OPEN);
        Checks.due("emit(CORE)", x.emit(CoreEnumerator.CORE), 3);
        Checks.due("verdict(3)", x.verdict(3), CoreEnumerator.KNOWN_UNSAT);
        Checks.due("verdict(14)", x.verdict(14), CoreEnumerator.OPEN);
        Checks.due("emit(MAXIMAL)", x.emit(CoreEnumerator.MAXIMAL), 14);
        Checks.due("verdict(14)", x.verdict(14), CoreEnumerator.KNOWN_SAT);
    }

    private static void coresRiseOnce() {
        for (State state : State.ready()) {
            state.x.enumerate();
            int last = -1;
            for (int i = state.x.count(CoreEnumerator.CORE); i > 0; i--) {
                int mask = state.x.emit(CoreEnumerator.CORE);
                Checks.due(state.name + "core " + mask + " comes after " + last, mask > last ? 1 : 0, 1);
                last = mask;
            }
            refused(state.x, CoreEnumerator.CORE, CoreEnumerator.NONE);
        }
    }

    private static void maximalsFallOnce() {
        for (State state : State.ready()) {
            state.x.enumerate();
            int last = 256;
            for (int i = state.x.count(CoreEnumerator.MAXIMAL); i > 0; i--) {
                int mask = state.x.emit(CoreEnumerator.MAXIMAL);
                boolean falls = mask >= 0 && mask < last;
                Checks.due(state.name + "maximal " + mask + " comes after " + last, falls ? 1 : 0, 1);
                last = mask;
            }
            refused(state.x, CoreEnumerator.MAXIMAL, CoreEnumerator.NONE);
        }
    }

    /** The bits of an order say, lowest first, from which list to emit. */
    private static void everyInterleaving() {
        int[] cores = {3, 13, CoreEnumerator.NONE};
        int[] maximals = {14, 9, 5, CoreEnumerator.NONE};
        CoreEnumerator x = Checks.example();
        for (int order = 0; order < 256; order++) {
            x.enumerate();
            int nextCore = 0;
            int nextMaximal = 0;
            for (int step = 0; step < 8; step++) {
                String call = "emit in order " + order + " at step " + step;
                if ((order >> step & 1) == 0) {
                    Checks.due(call, x.emit(CoreEnumerator.CORE), cores[nextCore]);
                    nextCore = Math.min(2, nextCore + 1);
                } else {
                    Checks.due(call, x.emit(CoreEnumerator.MAXIMAL), maximals[nextMaximal]);
                    nextMaximal = Math.min(3, nextMaximal + 1);
                }
                Checks.dueEmitted(x, nextCore, nextMaximal);
            }
        }
    }

    private static void changesOnlyItsOwnNumber() {
        CoreEnumerator x = Checks.example();
        x.setKind(2, CoreEnumerator.HARD);
        Checks.due("enumerate()", x.enumerate(), 4);
        Checks.dueEmissions(x, CoreEnumerator.CORE, 3, 9);
        Checks.dueSlots(x, 11, 4);
        Checks.dueLiterals(x, 3, -1, -2, 0);
        Checks.due("count(CORE)", x.count(CoreEnumerator.CORE), 2);
        Checks.due("count(MAXIMAL)", x.count(CoreEnumerator.MAXIMAL), 2);
        Checks.dueEmitted(x, 2, 0);
        Checks.dueEmissions(x, CoreEnumerator.MAXIMAL, 10, 1);
    }

    private static void clausesStayInEveryState() {
        for (State state : State.ready()) {
            String clauses = Checks.clauses(state.x);
            int cores = state.x.count(CoreEnumerator.CORE);
            int maximals = state.x.count(CoreEnumerator.MAXIMAL);
            for (int i = 0; i < 20; i++) {
                state.x.emit(CoreEnumerator.CORE + i % 2);
                Checks.dueEqual(state.name + "the clauses", Checks.clauses(state.x), clauses);
                Checks.due(state.name + "count(CORE)", state.x.count(CoreEnumerator.CORE), cores);
                Checks.due(state.name + "count(MAXIMAL)", state.x.count(CoreEnumerator.MAXIMAL), maximals);
            }
        }
    }

    private static void theEmptyMaximal() {
        CoreEnumerator x = Checks.object(1, 1, Checks.soft(0, 0, 0));
        Checks.dueLists(x, Checks.masks(1), Checks.masks(0));
        Checks.dueEmitted(x, 1, 1);
        x.removeClause(0);
        Checks.dueLists(x, Checks.masks(), Checks.masks(0));
        Checks.dueEmitted(x, 0, 1);
    }

    private static void theEmptyCore() {
        CoreEnumerator x = Checks.object(1, 1, Checks.hard(0, 0, 0));
        Checks.dueLists(x, Checks.masks(0), Checks.masks());
        Checks.dueEmitted(x, 1, 0);
    }

    private static void refuseBoth(CoreEnumerator x, int due) {
        refused(x, CoreEnumerator.CORE, due);
        refused(x, CoreEnumerator.MAXIMAL, due);
    }

    private static void refused(CoreEnumerator x, int list, int due) {
        Checks.dueUnchanged(x, "emit(" + list + ")", () -> x.emit(list), due);
    }
}
