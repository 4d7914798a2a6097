/** Promise 6: changing the kind of a clause. */
public final class Promise06SetKindTest {
    public static void main(String[] args) {
        changesJustThatKind();
        theNewKindCounts();
        becomesNotReady();
        sameKindIsRefused();
        badSlotsAndKindsAreRefused();
        Checks.finish();
    }

    private static void changesJustThatKind() {
        CoreEnumerator x = Checks.example();
        dueDone(x, 2, CoreEnumerator.HARD);
        Checks.due("slots(SOFT)", x.slots(CoreEnumerator.SOFT), 11);
        Checks.due("slots(HARD)", x.slots(CoreEnumerator.HARD), 4);
        dueDone(x, 3, CoreEnumerator.HARD);
        dueDone(x, 2, CoreEnumerator.SOFT);
        Checks.due("slots(SOFT)", x.slots(CoreEnumerator.SOFT), 7);
        Checks.due("slots(HARD)", x.slots(CoreEnumerator.HARD), 8);
        int[] literals = {1, 0, 0, -1, 0, 0, 2, 0, 0, -1, -2, 0};
        for (int i = 0; i < literals.length; i++) {
            Checks.due("literal(" + i / 3 + ", " + i % 3 + ")", x.literal(i / 3, i % 3), literals[i]);
        }
    }

    private static void theNewKindCounts() {
        CoreEnumerator x = Checks.example();
        dueDone(x, 0, CoreEnumerator.HARD);
        Checks.due("witness(0) with x1 hard", x.witness(0), 1);
        Checks.due("witness(1) with x1 hard", x.witness(1), CoreEnumerator.BAD_MASK);
        Checks.due("enumerate() with x1 hard", x.enumerate(), 4);
        Checks.dueEmissions(x, CoreEnumerator.CORE, 2, 12);
        Checks.dueEmissions(x, CoreEnumerator.MAXIMAL, 8, 4);
        dueDone(x, 0, CoreEnumerator.SOFT);
        Checks.due("enumerate() with x1 soft", x.enumerate(), 5);
        Checks.dueEmissions(x, CoreEnumerator.CORE, 3, 13);
        Checks.dueEmissions(x, CoreEnumerator.MAXIMAL, 14, 9, 5);
    }

    private static void becomesNotReady() {
        CoreEnumerator x = Checks.halfEmittedExample();
        dueDone(x, 1, CoreEnumerator.HARD);
        Checks.dueNotReady(x, "after setKind to HARD");
        x.enumerate();
        dueDone(x, 1, CoreEnumerator.SOFT);
        Checks.dueNotReady(x, "after setKind to SOFT");
    }

    private static void sameKindIsRefused() {
        CoreEnumerator x = Checks.example();
        dueDone(x, 3, CoreEnumerator.HARD);
        refused(x, 3, CoreEnumerator.HARD, CoreEnumerator.SAME);
        x.enumerate();
        x.emit(CoreEnumerator.CORE);
        x.emit(CoreEnumerator.MAXIMAL);
        refused(x, 3, CoreEnumerator.HARD, CoreEnumerator.SAME);
        refused(x, 0, CoreEnumerator.SOFT, CoreEnumerator.SAME);
        Checks.due("emitted(CORE) after SAME", x.emitted(CoreEnumerator.CORE), 1);
        Checks.due("emitted(MAXIMAL) after SAME", x.emitted(CoreEnumerator.MAXIMAL), 1);
    }

    private static void badSlotsAndKindsAreRefused() {
        CoreEnumerator x = Checks.halfEmittedExample();
        for (int slot : new int[] {4, 5, 6, 8, 31, 32, 33, 64, -32}) {
            refused(x, slot, CoreEnumerator.HARD, CoreEnumerator.BAD_SLOT);
            refused(x, slot, 7, CoreEnumerator.BAD_SLOT);
        }
        for (int far : Checks.FAR_INTS) {
            refused(x, far, CoreEnumerator.SOFT, CoreEnumerator.BAD_SLOT);
            refused(x, far, far, CoreEnumerator.BAD_SLOT);
            refused(x, 0, far, CoreEnumerator.BAD_KIND);
        }
        refused(x, 3, CoreEnumerator.CORE, CoreEnumerator.BAD_KIND);
        refused(x, 3, CoreEnumerator.MAXIMAL, CoreEnumerator.BAD_KIND);
        x.removeClause(2);
        refused(x, 2, CoreEnumerator.HARD, CoreEnumerator.BAD_SLOT);
    }

    private static void dueDone(CoreEnumerator x, int slot, int kind) {
        Checks.due("setKind(" + slot + ", " + kind + ")", x.setKind(slot, kind), CoreEnumerator.DONE);
    }

    private static void refused(CoreEnumerator x, int slot, int kind, int due) {
        Checks.dueUnchanged(x, "setKind(" + slot + ", " + kind + ")", () -> x.setKind(slot, kind), due);
    }
}
