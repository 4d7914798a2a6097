/** Promise 6: changing the kind of a clause. */
public final class Promise06SetKindTest {
    public static void main(String[] args) {
        Checks.sentence("BAD_SLOT if slot is below 0, above C-1, or empty.",
                () -> State.eachSlotBelow((state, slot) -> refuseBadSlot(state.x, slot)),
                () -> State.eachSlotAbove((state, slot) -> refuseBadSlot(state.x, slot)),
                () -> State.eachEmptySlot((state, slot) -> refuseBadSlot(state.x, slot)),
                Promise06SetKindTest::emptiedSlotsAreRefused);
        Checks.sentence("BAD_KIND if kind is neither SOFT nor HARD.", Promise06SetKindTest::badKindsAreRefused);
        Checks.sentence("SAME if the clause there is already of that kind.", Promise06SetKindTest::sameKindIsRefused);
        Checks.sentence("in this order:", Promise06SetKindTest::badSlotComesBeforeBadKind);
        Checks.sentence("Otherwise the clause gets that kind, the object becomes not ready (or stays so),"
                + " and the answer is DONE.",
                Promise06SetKindTest::getsThatKind, Promise06SetKindTest::theNewKindCounts,
                Promise06SetKindTest::becomesNotReady, Promise06SetKindTest::staysNotReady);
        Checks.sentence("The clause keeps its slot and its literals; all other slots are unchanged.",
                Promise06SetKindTest::onlyThatKindChanges);
        Checks.sentence("After SAME, as after every refusal, a ready object stays ready with its emission numbers"
                + " as they were.", Promise06SetKindTest::afterSameEmissionsGoOn);
        Checks.finish();
    }

    private static void emptiedSlotsAreRefused() {
        CoreEnumerator x = Checks.example();
        x.setKind(2, CoreEnumerator.HARD);
        x.removeClause(2);
        x.removeClause(1);
        refuseBadSlot(x, 2);
        refuseBadSlot(x, 1);
    }

    private static void badKindsAreRefused() {
        State.eachBadKind((state, kind) -> {
            for (int slot = 0; slot < state.capacity; slot++) {
                if (state.isOccupied(slot)) {
                    refused(state.x, slot, kind, CoreEnumerator.BAD_KIND);
                }
            }
        });
    }

    private static void sameKindIsRefused() {
        State.eachOccupiedSlot((state, slot) -> {
            int kind = state.hard >> slot & 1;
            refused(state.x, slot, kind, CoreEnumerator.SAME);
            dueDone(state.x, slot, 1 - kind);
            refused(state.x, slot, 1 - kind, CoreEnumerator.SAME);
        });
    }

    private static void badSlotComesBeforeBadKind() {
        State.eachBadSlot((state, slot) -> {
            refused(state.x, slot, 2, CoreEnumerator.BAD_SLOT);
            refused(state.x, slot, Integer.MIN_VALUE, CoreEnumerator.BAD_SLOT);
            refused(state.x, slot, Integer.MAX_VALUE, CoreEnumerator.BAD_SLOT);
        });
    }

    private static void getsThatKind() {
        State.eachOccupiedSlot((state, slot) -> {
            int bit = 1 << slot;
            int kind = state.hard >> slot & 1;
            dueDone(state.x, slot, 1 - kind);
            Checks.dueSlots(state.x, state.soft ^ bit, state.hard ^ bit);
            dueDone(state.x, slot, kind);
            Checks.dueSlots(state.x, state.soft, state.hard);
        });
    }

    private static void theNewKindCounts() {
        CoreEnumerator x = Checks.example();
        dueDone(x, 0, CoreEnumerator.HARD);
        Checks.due("witness(0) with x1 hard", x.witness(0), 1);
        Checks.due("witness(1) with x1 hard", x.witness(1), CoreEnumerator.BAD_MASK);
        Checks.dueLists(x, Checks.masks(2, 12), Checks.masks(8, 4));
        dueDone(x, 0, CoreEnumerator.SOFT);
        Checks.dueLists(x, Checks.masks(3, 13), Checks.masks(14, 9, 5));
    }

    private static void becomesNotReady() {
        CoreEnumerator x = Checks.halfEmittedExample();
        dueDone(x, 1, CoreEnumerator.HARD);
        Checks.dueNotReady(x, "after setKind to HARD");
        x.enumerate();
        x.emit(CoreEnumerator.CORE);
        dueDone(x, 1, CoreEnumerator.SOFT);
        Checks.dueNotReady(x, "after setKind to SOFT");
    }

    private static void staysNotReady() {
        CoreEnumerator x = Checks.example();
        dueDone(x, 0, CoreEnumerator.HARD);
        Checks.dueNotReady(x, "after setKind to HARD");
        dueDone(x, 0, CoreEnumerator.SOFT);
        Checks.dueNotReady(x, "after setKind to SOFT");
    }

    private static void onlyThatKindChanges() {
        CoreEnumerator x = Checks.example();
        dueDone(x, 2, CoreEnumerator.HARD);
        Checks.dueSlots(x, 11, 4);
        dueDone(x, 3, CoreEnumerator.HARD);
        dueDone(x, 2, CoreEnumerator.SOFT);
        Checks.dueSlots(x, 7, 8);
        Checks.dueLiterals(x, 0, 1, 0, 0);
        Checks.dueLiterals(x, 1, -1, 0, 0);
        Checks.dueLiterals(x, 2, 2, 0, 0);
        Checks.dueLiterals(x, 3, -1, -2, 0);
        Checks.due("literal of an empty slot", x.literal(4, 0), CoreEnumerator.BAD_SLOT);
    }

    private static void afterSameEmissionsGoOn() {
        CoreEnumerator x = Checks.halfEmittedExample();
        for (int slot = 0; slot < 4; slot++) {
            refused(x, slot, CoreEnumerator.SOFT, CoreEnumerator.SAME);
            refused(x, slot, Integer.MAX_VALUE, CoreEnumerator.BAD_KIND);
            refused(x, slot + 4, CoreEnumerator.SOFT, CoreEnumerator.BAD_SLOT);
        }
        Checks.dueEmitted(x, 1, 1);
        Checks.dueEmissions(x, CoreEnumerator.CORE, 13);
        Checks.dueEmissions(x, CoreEnumerator.MAXIMAL, 9, 5);
    }

    private static void refuseBadSlot(CoreEnumerator x, int slot) {
        refused(x, slot, CoreEnumerator.SOFT, CoreEnumerator.BAD_SLOT);
        refused(x, slot, CoreEnumerator.HARD, CoreEnumerator.BAD_SLOT);
    }

    private static void dueDone(CoreEnumerator x, int slot, int kind) {
        Checks.due("setKind(" + slot + ", " + kind + ")", x.setKind(slot, kind), CoreEnumerator.DONE);
    }

    private static void refused(CoreEnumerator x, int slot, int kind, int due) {
        Checks.dueUnchanged(x, "setKind(" + slot + ", " + kind + ")", () -> x.setKind(slot, kind), due);
    }
}
