/** Promise 5: removing a clause. */
public final class Promise05RemoveClauseTest {
    public static void main(String[] args) {
        Checks.sentence("BAD_SLOT if slot is below 0, above C-1, or empty.",
                () -> State.eachSlotBelow((state, slot) -> refused(state.x, slot)),
                () -> State.eachSlotAbove((state, slot) -> refused(state.x, slot)),
                () -> State.eachEmptySlot((state, slot) -> refused(state.x, slot)),
                Promise05RemoveClauseTest::emptiedSlotsAreRefused);
        Checks.sentence("Otherwise the slot becomes empty, the object becomes not ready (or stays so),"
                + " and the answer is DONE.",
                Promise05RemoveClauseTest::theSlotBecomesEmpty,
                Promise05RemoveClauseTest::removedClausesHaveNoInfluence,
                Promise05RemoveClauseTest::becomesNotReady, Promise05RemoveClauseTest::staysNotReady);
        Checks.sentence("The clause may be SOFT or HARD.", Promise05RemoveClauseTest::bothKindsAreRemoved);
        Checks.sentence("All other clauses stay in their slots, with their literals and kinds.",
                Promise05RemoveClauseTest::otherClausesStay);
        Checks.finish();
    }

    private static void emptiedSlotsAreRefused() {
        CoreEnumerator x = Checks.example();
        for (int slot = 3; slot >= 0; slot--) {
            Checks.due("removeClause(" + slot + ")", x.removeClause(slot), CoreEnumerator.DONE);
            refused(x, slot);
            x.enumerate();
            x.emit(CoreEnumerator.MAXIMAL);
            refused(x, slot);
        }
    }

    /** The slots are removed one after the other, so only those above are left. */
    private static void theSlotBecomesEmpty() {
        State.eachOccupiedSlot((state, slot) -> {
            Checks.due("removeClause(" + slot + ")", state.x.removeClause(slot), CoreEnumerator.DONE);
            Checks.due("literal of it", state.x.literal(slot, 0), CoreEnumerator.BAD_SLOT);
            int above = -2 << slot;
            Checks.dueSlots(state.x, state.soft & above, state.hard & above);
        });
    }

    private static void becomesNotReady() {
        State.eachOccupiedSlot((state, slot) -> {
            state.x.enumerate();
            state.x.emit(CoreEnumerator.CORE);
            state.x.removeClause(slot);
            Checks.dueNotReady(state.x, "after removeClause(" + slot + "), " + state.name);
        });
    }

    private static void staysNotReady() {
        State.eachOccupiedSlot((state, slot) -> {
            if (!state.ready) {
                state.x.removeClause(slot);
                Checks.dueNotReady(state.x, "after removeClause(" + slot + "), " + state.name);
            }
        });
    }

    private static void removedClausesHaveNoInfluence() {
        CoreEnumerator x = Checks.object(2, 3, Checks.hard(0, 0, 0), Checks.soft(1, 0, 0), Checks.soft(-1, 0, 0));
        Checks.due("witness(0)", x.witness(0), CoreEnumerator.NONE);
        x.removeClause(0);
        Checks.due("witness(0) without the hard clause", x.witness(0), 0);
        Checks.due("witness(2) without the hard clause", x.witness(2), 1);
        Checks.dueLists(x, Checks.masks(6), Checks.masks(4, 2));
        x.removeClause(2);
        Checks.due("witness(4)", x.witness(4), CoreEnumerator.BAD_MASK);
        Checks.dueLists(x, Checks.masks(), Checks.masks(2));
    }

    private static void bothKindsAreRemoved() {
        CoreEnumerator x = Checks.object(2, 4,
                Checks.soft(1, 0, 0), Checks.hard(1, 0, 0), Checks.hard(2, 0, 0), Checks.soft(2, 0, 0));
        Checks.due("removing a SOFT clause", x.removeClause(3), CoreEnumerator.DONE);
        Checks.dueSlots(x, 1, 6);
        Checks.due("removing a HARD clause", x.removeClause(1), CoreEnumerator.DONE);
        Checks.dueSlots(x, 1, 4);
        Checks.due("removing the last SOFT clause", x.removeClause(0), CoreEnumerator.DONE);
        Checks.dueSlots(x, 0, 4);
        Checks.due("removing the last HARD clause", x.removeClause(2), CoreEnumerator.DONE);
        Checks.dueSlots(x, 0, 0);
    }

    private static void otherClausesStay() {
        for (int removed = 0; removed < 8; removed++) {
            CoreEnumerator x = new CoreEnumerator(5, 8);
            for (int slot = 0; slot < 8; slot++) {
                Checks.add(x, slot, slot / 4, slot % 5 + 1, -(slot % 3) - 1, 0);
            }
            Checks.due("removeClause(" + removed + ")", x.removeClause(removed), CoreEnumerator.DONE);
            Checks.dueSlots(x, 15 & ~(1 << removed), 240 & ~(1 << removed));
            for (int slot = 0; slot < 8; slot++) {
                if (slot != removed) {
                    Checks.dueLiterals(x, slot, slot % 5 + 1, -(slot % 3) - 1, 0);
                }
            }
            Checks.add(x, removed, CoreEnumerator.SOFT, 0, 0, 4);
            Checks.dueLiterals(x, removed, 0, 0, 4);
        }
    }

    private static void refused(CoreEnumerator x, int slot) {
        Checks.dueUnchanged(x, "removeClause(" + slot + ")", () -> x.removeClause(slot), CoreEnumerator.BAD_SLOT);
    }
}
