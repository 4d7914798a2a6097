/** Promise 2: the number of variables. */
public final class Promise02VariablesTest {
    public static void main(String[] args) {
        Checks.sentence("variables() answers V, the clamped value, in every state.",
                Promise02VariablesTest::everyClampedValueStays);
        Checks.sentence("It is never refused and changes nothing.",
                Promise02VariablesTest::neverRefused, () -> State.dueNoTrace(state -> state.x.variables()));
        Checks.finish();
    }

    private static void everyClampedValueStays() {
        for (int given = -1; given <= 7; given++) {
            staysInEveryState(given, Math.max(1, Math.min(5, given)));
        }
        staysInEveryState(Integer.MIN_VALUE, 1);
        staysInEveryState(Integer.MAX_VALUE, 5);
    }

    private static void staysInEveryState(int given, int due) {
        CoreEnumerator x = new CoreEnumerator(given, 2);
        dueVariables(x, "at the start", due);
        Checks.add(x, 0, CoreEnumerator.SOFT, due, 0, 0);
        Checks.add(x, 1, CoreEnumerator.HARD, -due, 0, 0);
        dueVariables(x, "when full", due);
        x.addClause(CoreEnumerator.SOFT, due + 1, 0, 0);
        dueVariables(x, "after a refusal", due);
        x.enumerate();
        dueVariables(x, "when ready", due);
        x.emit(CoreEnumerator.CORE);
        dueVariables(x, "after emitting", due);
        x.removeClause(0);
        dueVariables(x, "after removing", due);
    }

    private static void neverRefused() {
        for (State state : State.all()) {
            dueVariables(state.x, state.name, state.variables);
        }
    }

    private static void dueVariables(CoreEnumerator x, String when, int due) {
        Checks.dueUnchanged(x, "variables() " + when, x::variables, due);
    }
}
