/** Promise 8: the slots of a kind. */
public final class Promise08SlotsTest {
    public static void main(String[] args) {
        Checks.sentence("BAD_KIND if kind is neither SOFT nor HARD.",
                () -> State.eachBadKind((state, kind) -> dueSlots(state.x, kind, CoreEnumerator.BAD_KIND)));
        Checks.sentence("Otherwise it answers the mask of all slots that hold a clause of that kind,"
                + " 0 if there are none.",
                Promise08SlotsTest::everySplitIntoKinds, Promise08SlotsTest::emptySlotsAreInNeither,
                Promise08SlotsTest::noClauseOfThatKind);
        Checks.sentence("So slots(SOFT) is F.", Promise08SlotsTest::softSlotsAreTheWholeSet);
        Checks.sentence("It works whether the object is ready or not, and changes nothing.",
                Promise08SlotsTest::worksInEveryState,
                () -> State.dueNoTrace(state -> state.x.slots(CoreEnumerator.SOFT)),
                () -> State.dueNoTrace(state -> state.x.slots(CoreEnumerator.HARD)));
        Checks.finish();
    }

    private static void everySplitIntoKinds() {
        for (int hard = 0; hard < 256; hard++) {
            CoreEnumerator x = new CoreEnumerator(2, 8);
            dueBoth(x, 0, 0);
            for (int slot = 0; slot < 8; slot++) {
                Checks.add(x, slot, hard >> slot & 1, 1, 2, 0);
            }
            dueBoth(x, 255 - hard, hard);
            x.enumerate();
            dueBoth(x, 255 - hard, hard);
        }
    }

    private static void emptySlotsAreInNeither() {
        CoreEnumerator x = Checks.example();
        x.setKind(1, CoreEnumerator.HARD);
        dueBoth(x, 13, 2);
        x.removeClause(1);
        dueBoth(x, 13, 0);
        x.removeClause(3);
        dueBoth(x, 5, 0);
        Checks.add(x, 1, CoreEnumerator.HARD, 0, 0, 0);
        dueBoth(x, 5, 2);
    }

    private static void noClauseOfThatKind() {
        CoreEnumerator x = new CoreEnumerator(2, 2);
        dueBoth(x, 0, 0);
        Checks.add(x, 0, CoreEnumerator.SOFT, 1, 0, 0);
        dueBoth(x, 1, 0);
        x.setKind(0, CoreEnumerator.HARD);
        dueBoth(x, 0, 1);
        x.removeClause(0);
        dueBoth(x, 0, 0);
        x.enumerate();
        dueBoth(x, 0, 0);
    }

    private static void softSlotsAreTheWholeSet() {
        for (State state : State.ready()) {
            int whole = state.x.slots(CoreEnumerator.SOFT);
            for (int mask = 0; mask < 256; mask++) {
                boolean isSubset = (mask & ~whole) == 0;
                Checks.due(state.name + "verdict(" + mask + ") is BAD_MASK",
                        state.x.verdict(mask) == CoreEnumerator.BAD_MASK ? 1 : 0, isSubset ? 0 : 1);
            }
            state.x.enumerate();
            Checks.due(state.name + "greatestOpen()", state.x.greatestOpen(), whole);
        }
    }

    private static void worksInEveryState() {
        for (State state : State.all()) {
            dueBoth(state.x, state.soft, state.hard);
        }
    }

    private static void dueBoth(CoreEnumerator x, int soft, int hard) {
        dueSlots(x, CoreEnumerator.SOFT, soft);
        dueSlots(x, CoreEnumerator.HARD, hard);
    }

    private static void dueSlots(CoreEnumerator x, int kind, int due) {
        Checks.dueUnchanged(x, "slots(" + kind + ")", () -> x.slots(kind), due);
    }
}
