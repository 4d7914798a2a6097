/** The section 'Terms' of the document: masks and subsets. */
public final class TermsMasksTest {
    public static void main(String[] args) {
        Checks.sentence("A set of slots is an int, slot s being bit s (value 1 << s).",
                TermsMasksTest::everySlotIsItsBit);
        Checks.sentence("F is the set of slots that hold SOFT clauses at the moment.",
                TermsMasksTest::theWholeFollowsTheClauses);
        Checks.sentence("A subset is any mask M with M >= 0 and no bit outside F;"
                + " the empty set 0 and F itself are subsets.", () -> State.eachSubset(TermsMasksTest::dueTaken));
        Checks.sentence("All other ints are bad masks: every negative int, and every int with a bit for a slot"
                + " that is empty, holds a HARD clause, or does not exist.",
                () -> State.eachNegativeMask(TermsMasksTest::dueBad),
                () -> State.eachMaskWithAnEmptySlot(TermsMasksTest::dueBad),
                () -> State.eachMaskWithAHardSlot(TermsMasksTest::dueBad),
                () -> State.eachMaskWithNoSuchSlot(TermsMasksTest::dueBad));
        Checks.sentence("Masks are compared as ints.", TermsMasksTest::ordersAreThoseOfInts);
        Checks.finish();
    }

    private static void everySlotIsItsBit() {
        CoreEnumerator x = new CoreEnumerator(1, 8);
        int[] bits = {1, 2, 4, 8, 16, 32, 64, 128};
        for (int slot = 0; slot < 8; slot++) {
            Checks.add(x, slot, CoreEnumerator.HARD, 1, 0, 0);
        }
        for (int slot = 0; slot < 8; slot++) {
            x.setKind(slot, CoreEnumerator.SOFT);
            Checks.dueSlots(x, bits[slot], 255 - bits[slot]);
            Checks.dueLists(x, Checks.masks(), Checks.masks(bits[slot]));
            x.setKind(slot, CoreEnumerator.HARD);
        }
    }

    private static void theWholeFollowsTheClauses() {
        CoreEnumerator x = Checks.object(1, 3, Checks.soft(1, 0, 0), Checks.hard(1, 0, 0), Checks.soft(1, 0, 0));
        dueWhole(x, 5);
        x.setKind(1, CoreEnumerator.SOFT);
        dueWhole(x, 7);
        x.removeClause(0);
        dueWhole(x, 6);
        x.setKind(2, CoreEnumerator.HARD);
        dueWhole(x, 2);
        Checks.add(x, 0, CoreEnumerator.SOFT, 1, 0, 0);
        dueWhole(x, 3);
    }

    private static void dueWhole(CoreEnumerator x, int whole) {
        Checks.due("slots(SOFT)", x.slots(CoreEnumerator.SOFT), whole);
        Checks.due("witness(F)", x.witness(whole), 1);
        x.enumerate();
        Checks.due("greatestOpen()", x.greatestOpen(), whole);
    }

    private static void ordersAreThoseOfInts() {
        CoreEnumerator bigCoreFirst = Checks.object(2, 4,
                Checks.soft(1, 0, 0), Checks.soft(-1, 2, 0), Checks.soft(-2, 0, 0), Checks.soft(0, 0, 0));
        Checks.dueLists(bigCoreFirst, Checks.masks(7, 8), Checks.masks(6, 5, 3));
        CoreEnumerator smallMaximalFirst = Checks.object(1, 4,
                Checks.soft(1, 0, 0), Checks.soft(1, 0, 0), Checks.soft(1, 0, 0), Checks.soft(-1, 0, 0));
        Checks.dueLists(smallMaximalFirst, Checks.masks(9, 10, 12), Checks.masks(8, 7));
    }

    private static void dueTaken(State state, int mask) {
        int answer = state.x.witness(mask);
        boolean isAssignment = answer >= 0 && answer < 1 << state.variables;
        Checks.due(state.name + "witness(" + mask + ") is an assignment or NONE",
                isAssignment || answer == CoreEnumerator.NONE ? 1 : 0, 1);
        int verdict = state.x.verdict(mask);
        boolean due = state.ready ? verdict >= 0 && verdict <= 2 : verdict == CoreEnumerator.NOT_READY;
        Checks.due(state.name + "verdict(" + mask + ") is not a refusal of the mask", due ? 1 : 0, 1);
    }

    private static void dueBad(State state, int mask) {
        Checks.due(state.name + "witness(" + mask + ")", state.x.witness(mask), CoreEnumerator.BAD_MASK);
        Checks.due(state.name + "verdict(" + mask + ")", state.x.verdict(mask),
                state.ready ? CoreEnumerator.BAD_MASK : CoreEnumerator.NOT_READY);
    }
}
