/** Promise 8: the slots of a kind. */
public final class Promise08SlotsTest {
    public static void main(String[] args) {
        everySplitIntoKinds();
        emptySlotsAreInNeither();
        badKindsAreRefused();
        Checks.finish();
    }

    private static void everySplitIntoKinds() {
        for (int hard = 0; hard < 256; hard++) {
            CoreEnumerator x = new CoreEnumerator(2, 8);
            dueSlots(x, 0, 0);
            for (int slot = 0; slot < 8; slot++) {
                Checks.add(x, slot, hard >> slot & 1, 1, 2, 0);
            }
            dueSlots(x, 255 - hard, hard);
            x.enumerate();
            dueSlots(x, 255 - hard, hard);
        }
    }

    private static void emptySlotsAreInNeither() {
        CoreEnumerator x = Checks.example();
        x.setKind(1, CoreEnumerator.HARD);
        dueSlots(x, 13, 2);
        x.removeClause(1);
        dueSlots(x, 13, 0);
        x.removeClause(3);
        dueSlots(x, 5, 0);
        x.addClause(CoreEnumerator.HARD, 0, 0, 0);
        dueSlots(x, 5, 2);
    }

    private static void badKindsAreRefused() {
        CoreEnumerator x = Checks.halfEmittedExample();
        CoreEnumerator unready = Checks.example();
        for (int far : Checks.FAR_INTS) {
            dueSlots(x, far);
            dueSlots(unready, far);
        }
        dueSlots(x, CoreEnumerator.CORE);
        dueSlots(x, CoreEnumerator.MAXIMAL);
    }

    private static void dueSlots(CoreEnumerator x, int soft, int hard) {
        Checks.dueUnchanged(x, "slots(SOFT)", () -> x.slots(CoreEnumerator.SOFT), soft);
        Checks.dueUnchanged(x, "slots(HARD)", () -> x.slots(CoreEnumerator.HARD), hard);
    }

    private static void dueSlots(CoreEnumerator x, int badKind) {
        Checks.dueUnchanged(x, "slots(" + badKind + ")", () -> x.slots(badKind), CoreEnumerator.BAD_KIND);
    }
}
