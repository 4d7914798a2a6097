/** The section 'Terms' of the document: readiness and refusals. */
public final class TermsRefusalsTest {
    public static void main(String[] args) {
        Checks.sentence("They say how many masks of each list have been emitted.",
                TermsRefusalsTest::numbersFollowEmissions);
        Checks.sentence("Every successful addClause, removeClause or setKind makes the object not ready;"
                + " only enumerate makes it ready.",
                TermsRefusalsTest::changesMakeNotReady, TermsRefusalsTest::onlyEnumerateMakesReady);
        Checks.sentence("No other call changes readiness.", TermsRefusalsTest::otherCallsKeepReady);
        Checks.sentence("For each call the conditions for refusal are considered in the order in which they are"
                + " listed below, and the first that applies gives the answer.",
                TermsRefusalsTest::theFirstRefusalCounts);
        Checks.sentence("A refused call, that is one that answers any of the constants -11 .. -19,"
                + " changes nothing at all: no slot, no clause, no kind, not the readiness and no emission number.",
                () -> State.dueNoTrace(TermsRefusalsTest::makeRefusedCalls));
        Checks.finish();
    }

    private static void numbersFollowEmissions() {
        CoreEnumerator x = Checks.example();
        x.enumerate();
        Checks.dueEmitted(x, 0, 0);
        x.emit(CoreEnumerator.MAXIMAL);
        Checks.dueEmitted(x, 0, 1);
        x.emit(CoreEnumerator.CORE);
        Checks.dueEmitted(x, 1, 1);
        x.emit(CoreEnumerator.MAXIMAL);
        Checks.dueEmitted(x, 1, 2);
    }

    private static void changesMakeNotReady() {
        for (State state : State.all()) {
            if (!state.isFull()) {
                int slot = state.x.addClause(CoreEnumerator.HARD, -1, 0, 0);
                Checks.dueNotReady(state.x, "after addClause " + state.name);
                state.x.enumerate();
                state.x.removeClause(slot);
                Checks.dueNotReady(state.x, "after removeClause " + state.name);
            }
        }
        for (State state : State.all()) {
            for (int slot = 0; slot < state.capacity; slot++) {
                if (state.isOccupied(slot)) {
                    int other = state.soft >> slot & 1;
                    state.x.enumerate();
                    Checks.due("setKind in " + state.name, state.x.setKind(slot, other), CoreEnumerator.DONE);
                    Checks.dueNotReady(state.x, "after setKind " + state.name);
                }
            }
        }
    }

    private static void onlyEnumerateMakesReady() {
        for (State state : State.notReady()) {
            makeCallsThatKeepReadiness(state);
            Checks.dueNotReady(state.x, "after all other calls " + state.name);
            Checks.due(state.name + "enumerate() answers a refusal", state.x.enumerate() < 1 ? 1 : 0, 0);
            Checks.dueEmitted(state.x, 0, 0);
        }
    }

    private static void otherCallsKeepReady() {
        for (State state : State.ready()) {
            int cores = state.x.count(CoreEnumerator.CORE);
            int maximals = state.x.count(CoreEnumerator.MAXIMAL);
            makeCallsThatKeepReadiness(state);
            Checks.due("count(CORE) " + state.name, state.x.count(CoreEnumerator.CORE), cores);
            Checks.due("count(MAXIMAL) " + state.name, state.x.count(CoreEnumerator.MAXIMAL), maximals);
            for (int i = 0; i < 40; i++) {
                state.x.emit(CoreEnumerator.CORE);
                state.x.emit(CoreEnumerator.MAXIMAL);
            }
            Checks.dueEmitted(state.x, cores, maximals);
        }
    }

    private static void makeCallsThatKeepReadiness(State state) {
        makeRefusedCalls(state);
        Checks.observe(state.x);
        for (int mask = 0; mask < 256; mask++) {
            state.x.witness(mask);
        }
    }

    private static void theFirstRefusalCounts() {
        for (State state : State.all()) {
            for (int bad : Checks.PROBES) {
                if (bad < -5 || bad > 5) {
                    dueFirst(state, bad);
                }
            }
        }
    }

    /** The argument is wrong as a kind, a literal and a position; as a slot and a mask if it says so. */
    private static void dueFirst(State state, int bad) {
        CoreEnumerator x = state.x;
        String call = state.name + "with " + bad + ", ";
        Checks.due(call + "addClause all bad", x.addClause(bad, bad, bad, bad), CoreEnumerator.BAD_KIND);
        Checks.due(call + "addClause bad literals", x.addClause(1, bad, bad, bad), CoreEnumerator.BAD_LITERAL);
        if (!state.isOccupied(bad)) {
            Checks.due(call + "setKind both bad", x.setKind(bad, bad), CoreEnumerator.BAD_SLOT);
            Checks.due(call + "literal both bad", x.literal(bad, bad), CoreEnumerator.BAD_SLOT);
        }
        if (state.isOccupied(0)) {
            Checks.due(call + "setKind(0, bad)", x.setKind(0, bad), CoreEnumerator.BAD_KIND);
        }
        Checks.due(call + "count", x.count(bad), CoreEnumerator.BAD_KIND);
        Checks.due(call + "emit", x.emit(bad), CoreEnumerator.BAD_KIND);
        Checks.due(call + "emitted", x.emitted(bad), CoreEnumerator.BAD_KIND);
        if (!state.isSubset(bad)) {
            Checks.due(call + "witness", x.witness(bad), CoreEnumerator.BAD_MASK);
            int due = state.ready ? CoreEnumerator.BAD_MASK : CoreEnumerator.NOT_READY;
            Checks.due(call + "verdict", x.verdict(bad), due);
        }
    }

    private static void makeRefusedCalls(State state) {
        for (int bad : Checks.PROBES) {
            makeRefusedCalls(state, bad);
        }
        CoreEnumerator x = state.x;
        for (int slot = 0; slot < state.capacity; slot++) {
            if (state.isOccupied(slot)) {
                dueRefused(state, "setKind to the same kind", x.setKind(slot, state.hard >> slot & 1));
            }
        }
        if (state.isFull()) {
            dueRefused(state, "addClause(SOFT, 1, 0, 0)", x.addClause(CoreEnumerator.SOFT, 1, 0, 0));
            dueRefused(state, "addClause(HARD, 0, 0, 0)", x.addClause(CoreEnumerator.HARD, 0, 0, 0));
        }
        for (int list = CoreEnumerator.CORE; list <= CoreEnumerator.MAXIMAL; list++) {
            if (!state.ready) {
                dueRefused(state, "count(" + list + ")", x.count(list));
                dueRefused(state, "emitted(" + list + ")", x.emitted(list));
            }
            if (!state.ready || x.emitted(list) == x.count(list)) {
                dueRefused(state, "emit(" + list + ")", x.emit(list));
            }
        }
        if (!state.ready) {
            dueRefused(state, "verdict(0)", x.verdict(0));
            dueRefused(state, "greatestOpen()", x.greatestOpen());
        }
    }

    private static void makeRefusedCalls(State state, int bad) {
        CoreEnumerator x = state.x;
        if (bad != CoreEnumerator.SOFT && bad != CoreEnumerator.HARD) {
            dueRefused(state, "addClause(bad, 1, 0, 0)", x.addClause(bad, 1, 0, 0));
            dueRefused(state, "setKind(0, bad)", x.setKind(0, bad));
            dueRefused(state, "slots(bad)", x.slots(bad));
        }
        if (bad < -state.variables || bad > state.variables) {
            dueRefused(state, "addClause(SOFT, bad, 0, 0)", x.addClause(CoreEnumerator.SOFT, bad, 0, 0));
            dueRefused(state, "addClause(HARD, 0, bad, 0)", x.addClause(CoreEnumerator.HARD, 0, bad, 0));
            dueRefused(state, "addClause(SOFT, 0, 0, bad)", x.addClause(CoreEnumerator.SOFT, 0, 0, bad));
        }
        if (!state.isOccupied(bad)) {
            dueRefused(state, "removeClause(bad)", x.removeClause(bad));
            dueRefused(state, "setKind(bad, HARD)", x.setKind(bad, CoreEnumerator.HARD));
            dueRefused(state, "setKind(bad, SOFT)", x.setKind(bad, CoreEnumerator.SOFT));
            dueRefused(state, "literal(bad, 0)", x.literal(bad, 0));
        }
        if (bad < 0 || bad > 2) {
            dueRefused(state, "literal(0, bad)", x.literal(0, bad));
        }
        if (bad != CoreEnumerator.CORE && bad != CoreEnumerator.MAXIMAL) {
            dueRefused(state, "count(bad)", x.count(bad));
            dueRefused(state, "emit(bad)", x.emit(bad));
            dueRefused(state, "emitted(bad)", x.emitted(bad));
        }
        if (!state.isSubset(bad)) {
            dueRefused(state, "witness(bad)", x.witness(bad));
            dueRefused(state, "verdict(bad)", x.verdict(bad));
        }
    }

    private static void dueRefused(State state, String call, int got) {
        Checks.due(state.name + call + " is refused", got >= -19 && got <= -11 ? 1 : 0, 1);
    }
}
