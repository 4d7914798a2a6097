/** Promise 5: removing a clause. */
public final class Promise05RemoveClauseTest {
    public static void main(String[] args) {
        emptiesJustThatSlot();
        removedClausesHaveNoInfluence();
        becomesNotReady();
        badSlotsAreRefused();
        Checks.finish();
    }

    private static void emptiesJustThatSlot() {
        for (int removed = 0; removed < 8; removed++) {
            CoreEnumerator x = new CoreEnumerator(5, 8);
            for (int slot = 0; slot < 8; slot++) {
                Checks.add(x, slot, slot / 4, slot % 5 + 1, -(slot % 3) - 1, 0);
            }
            Checks.due("removeClause(" + removed + ")", x.removeClause(removed), CoreEnumerator.DONE);
            Checks.due("slots(SOFT)", x.slots(CoreEnumerator.SOFT), 15 & ~(1 << removed));
            Checks.due("slots(HARD)", x.slots(CoreEnumerator.HARD), 240 & ~(1 << removed));
            for (int slot = 0; slot < 8; slot++) {
                boolean gone = slot == removed;
                Checks.due("literal 0 of " + slot, x.literal(slot, 0), gone ? CoreEnumerator.BAD_SLOT : slot % 5 + 1);
                Checks.due("literal 1 of " + slot, x.literal(slot, 1), gone ? CoreEnumerator.BAD_SLOT : -(slot % 3) - 1);
            }
            Checks.due("removing it again", x.removeClause(removed), CoreEnumerator.BAD_SLOT);
            Checks.add(x, removed, CoreEnumerator.SOFT, 0, 0, 4);
            Checks.due("literal 0 of the new clause", x.literal(removed, 0), 0);
            Checks.due("literal 2 of the new clause", x.literal(removed, 2), 4);
        }
    }

    private static void removedClausesHaveNoInfluence() {
        CoreEnumerator x = new CoreEnumerator(2, 3);
        Checks.add(x, 0, CoreEnumerator.HARD, 0, 0, 0);
        Checks.add(x, 1, CoreEnumerator.SOFT, 1, 0, 0);
        Checks.add(x, 2, CoreEnumerator.SOFT, -1, 0, 0);
        Checks.due("witness(0)", x.witness(0), CoreEnumerator.NONE);
        x.removeClause(0);
        Checks.due("witness(0) without the hard clause", x.witness(0), 0);
        Checks.due("witness(2) without the hard clause", x.witness(2), 1);
        x.removeClause(2);
        Checks.due("enumerate() without the soft clause", x.enumerate(), 1);
        Checks.due("witness(4)", x.witness(4), CoreEnumerator.BAD_MASK);
        Checks.dueEmissions(x, CoreEnumerator.CORE);
        Checks.dueEmissions(x, CoreEnumerator.MAXIMAL, 2);
    }

    private static void becomesNotReady() {
        CoreEnumerator x = Checks.halfEmittedExample();
        Checks.due("removeClause(1)", x.removeClause(1), CoreEnumerator.DONE);
        Checks.dueNotReady(x, "after removeClause");
        Checks.due("removeClause(0)", x.removeClause(0), CoreEnumerator.DONE);
        Checks.dueNotReady(x, "after a second removeClause");
    }

    private static void badSlotsAreRefused() {
        CoreEnumerator ready = Checks.halfEmittedExample();
        CoreEnumerator full = new CoreEnumerator(1, 2);
        Checks.add(full, 0, CoreEnumerator.SOFT, 1, 0, 0);
        Checks.add(full, 1, CoreEnumerator.HARD, 1, 0, 0);
        for (int slot : new int[] {4, 5, 6, 7, 8, 9, 31, 32, 33, 64, -31, -4}) {
            refused(ready, slot);
        }
        for (int slot : new int[] {2, 3, 7, 8, 32, 33}) {
            refused(full, slot);
        }
        for (int far : Checks.FAR_INTS) {
            refused(ready, far);
            refused(full, far);
            refused(new CoreEnumerator(3, 3), far);
        }
        refused(new CoreEnumerator(3, 3), 0);
    }

    private static void refused(CoreEnumerator x, int slot) {
        Checks.dueUnchanged(x, "removeClause(" + slot + ")", () -> x.removeClause(slot), CoreEnumerator.BAD_SLOT);
    }
}
