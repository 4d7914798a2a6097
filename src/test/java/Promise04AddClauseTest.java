/** Promise 4: adding a clause. */
public final class Promise04AddClauseTest {
    public static void main(String[] args) {
        fillsTheLowestEmptySlot();
        keepsLiteralsAsGiven();
        everyLiteralInRangeIsTaken();
        literalsOutOfRangeAreRefused();
        badKindsAreRefused();
        fullIsRefused();
        refusalsKeepTheirOrder();
        becomesNotReady();
        Checks.finish();
    }

    private static void fillsTheLowestEmptySlot() {
        CoreEnumerator x = new CoreEnumerator(3, 5);
        for (int slot = 0; slot < 5; slot++) {
            Checks.add(x, slot, slot == 1 || slot == 4 ? CoreEnumerator.HARD : CoreEnumerator.SOFT, 1, slot % 3, -1);
        }
        Checks.due("slots(SOFT)", x.slots(CoreEnumerator.SOFT), 13);
        Checks.due("slots(HARD)", x.slots(CoreEnumerator.HARD), 18);
        x.removeClause(3);
        x.removeClause(1);
        Checks.add(x, 1, CoreEnumerator.SOFT, -3, -2, -1);
        Checks.add(x, 3, CoreEnumerator.HARD, 3, 2, 1);
        Checks.due("slots(SOFT) after refilling", x.slots(CoreEnumerator.SOFT), 7);
        Checks.due("slots(HARD) after refilling", x.slots(CoreEnumerator.HARD), 24);
        dueLiterals(x, 0, 1, 0, -1);
        dueLiterals(x, 1, -3, -2, -1);
        dueLiterals(x, 2, 1, 2, -1);
        dueLiterals(x, 3, 3, 2, 1);
        dueLiterals(x, 4, 1, 1, -1);
    }

    private static void keepsLiteralsAsGiven() {
        CoreEnumerator x = new CoreEnumerator(5, 8);
        int[][] clauses = {
            {0, 0, 0}, {0, 0, 5}, {-5, 0, -5}, {5, -5, 5}, {3, 2, 1}, {1, 2, 3}, {1, 2, 3}, {0, -4, 0}
        };
        for (int slot = 0; slot < clauses.length; slot++) {
            Checks.add(x, slot, CoreEnumerator.SOFT, clauses[slot][0], clauses[slot][1], clauses[slot][2]);
        }
        for (int slot = 0; slot < clauses.length; slot++) {
            dueLiterals(x, slot, clauses[slot][0], clauses[slot][1], clauses[slot][2]);
        }
    }

    private static void everyLiteralInRangeIsTaken() {
        for (int variables = 1; variables <= 5; variables++) {
            for (int literal = -variables; literal <= variables; literal++) {
                CoreEnumerator x = new CoreEnumerator(variables, 3);
                Checks.add(x, 0, CoreEnumerator.SOFT, literal, 0, 0);
                Checks.add(x, 1, CoreEnumerator.SOFT, 0, literal, 0);
                Checks.add(x, 2, CoreEnumerator.SOFT, 0, 0, literal);
            }
        }
    }

    private static void literalsOutOfRangeAreRefused() {
        for (int variables = 1; variables <= 5; variables++) {
            CoreEnumerator x = new CoreEnumerator(variables, 3);
            Checks.add(x, 0, CoreEnumerator.SOFT, 1, 0, 0);
            x.enumerate();
            x.emit(CoreEnumerator.MAXIMAL);
            refuseLiteral(x, variables + 1);
            refuseLiteral(x, -variables - 1);
            for (int far : Checks.FAR_INTS) {
                if (far != -1) {
                    refuseLiteral(x, far);
                }
            }
        }
    }

    private static void refuseLiteral(CoreEnumerator x, int literal) {
        refused(x, CoreEnumerator.SOFT, literal, 0, 0, CoreEnumerator.BAD_LITERAL);
        refused(x, CoreEnumerator.HARD, 1, literal, 0, CoreEnumerator.BAD_LITERAL);
        refused(x, CoreEnumerator.SOFT, 0, -1, literal, CoreEnumerator.BAD_LITERAL);
    }

    private static void badKindsAreRefused() {
        CoreEnumerator x = Checks.halfEmittedExample();
        refused(x, CoreEnumerator.CORE, 1, 0, 0, CoreEnumerator.BAD_KIND);
        refused(x, CoreEnumerator.MAXIMAL, 1, 0, 0, CoreEnumerator.BAD_KIND);
        for (int far : Checks.FAR_INTS) {
            refused(x, far, 1, 0, 0, CoreEnumerator.BAD_KIND);
        }
    }

    private static void fullIsRefused() {
        for (int capacity = 1; capacity <= 8; capacity++) {
            CoreEnumerator x = new CoreEnumerator(2, capacity);
            for (int slot = 0; slot < capacity; slot++) {
                Checks.add(x, slot, CoreEnumerator.SOFT, slot % 2 == 0 ? 1 : -1, 0, 0);
            }
            refused(x, CoreEnumerator.SOFT, 1, 0, 0, CoreEnumerator.FULL);
            x.enumerate();
            x.emit(CoreEnumerator.MAXIMAL);
            refused(x, CoreEnumerator.HARD, 0, 0, 0, CoreEnumerator.FULL);
        }
    }

    private static void refusalsKeepTheirOrder() {
        CoreEnumerator x = new CoreEnumerator(2, 1);
        refused(x, 2, 3, 0, 0, CoreEnumerator.BAD_KIND);
        Checks.add(x, 0, CoreEnumerator.HARD, 1, 0, 0);
        refused(x, 2, 3, 0, 0, CoreEnumerator.BAD_KIND);
        refused(x, -1, 1, 0, 0, CoreEnumerator.BAD_KIND);
        refused(x, CoreEnumerator.SOFT, 0, -3, 0, CoreEnumerator.BAD_LITERAL);
        refused(x, CoreEnumerator.SOFT, 0, -2, 0, CoreEnumerator.FULL);
    }

    private static void becomesNotReady() {
        CoreEnumerator x = Checks.halfEmittedExample();
        Checks.add(x, 4, CoreEnumerator.SOFT, 3, 0, 0);
        Checks.dueNotReady(x, "after addClause");
        Checks.add(x, 5, CoreEnumerator.HARD, 3, 0, 0);
        Checks.dueNotReady(x, "after a second addClause");
    }

    private static void refused(CoreEnumerator x, int kind, int a, int b, int c, int due) {
        String call = "addClause(" + kind + ", " + a + ", " + b + ", " + c + ")";
        Checks.dueUnchanged(x, call, () -> x.addClause(kind, a, b, c), due);
    }

    private static void dueLiterals(CoreEnumerator x, int slot, int a, int b, int c) {
        Checks.due("literal(" + slot + ", 0)", x.literal(slot, 0), a);
        Checks.due("literal(" + slot + ", 1)", x.literal(slot, 1), b);
        Checks.due("literal(" + slot + ", 2)", x.literal(slot, 2), c);
    }
}
