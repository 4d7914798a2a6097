/** Promise 7: reading a literal. */
public final class Promise07LiteralTest {
    public static void main(String[] args) {
        answersLiteralsAsGiven();
        badSlotsAreRefused();
        badPositionsAreRefused();
        Checks.finish();
    }

    private static void answersLiteralsAsGiven() {
        for (int a = -5; a <= 5; a++) {
            for (int b = -5; b <= 5; b++) {
                CoreEnumerator x = new CoreEnumerator(5, 2);
                Checks.add(x, 0, CoreEnumerator.HARD, b, a, 0);
                Checks.add(x, 1, CoreEnumerator.SOFT, a, 0, b);
                dueLiterals(x, a, b);
                x.enumerate();
                dueLiterals(x, a, b);
                x.setKind(1, CoreEnumerator.HARD);
                dueLiterals(x, a, b);
            }
        }
    }

    private static void dueLiterals(CoreEnumerator x, int a, int b) {
        int[] due = {b, a, 0, a, 0, b};
        for (int i = 0; i < due.length; i++) {
            dueLiteral(x, i / 3, i % 3, due[i]);
        }
    }

    private static void badSlotsAreRefused() {
        CoreEnumerator x = Checks.halfEmittedExample();
        for (int slot : new int[] {4, 5, 6, 7, 8, 31, 32, 33}) {
            dueLiteral(x, slot, 0, CoreEnumerator.BAD_SLOT);
            dueLiteral(x, slot, 3, CoreEnumerator.BAD_SLOT);
        }
        for (int far : Checks.FAR_INTS) {
            dueLiteral(x, far, 1, CoreEnumerator.BAD_SLOT);
            dueLiteral(x, far, far, CoreEnumerator.BAD_SLOT);
        }
        x.removeClause(1);
        dueLiteral(x, 1, 0, CoreEnumerator.BAD_SLOT);
        dueLiteral(x, 1, -1, CoreEnumerator.BAD_SLOT);
    }

    private static void badPositionsAreRefused() {
        CoreEnumerator x = Checks.halfEmittedExample();
        for (int slot = 0; slot < 4; slot++) {
            dueLiteral(x, slot, 3, CoreEnumerator.BAD_POSITION);
            dueLiteral(x, slot, -3, CoreEnumerator.BAD_POSITION);
            for (int far : Checks.FAR_INTS) {
                dueLiteral(x, slot, far, CoreEnumerator.BAD_POSITION);
            }
        }
    }

    private static void dueLiteral(CoreEnumerator x, int slot, int position, int due) {
        Checks.dueUnchanged(x, "literal(" + slot + ", " + position + ")", () -> x.literal(slot, position), due);
    }
}
