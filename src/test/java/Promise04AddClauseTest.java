/** Promise 4: adding a clause. */
public final class Promise04AddClauseTest {
    public static void main(String[] args) {
        Checks.sentence("addClause(int kind, int a, int b, int c) adds a clause with literals a, b, c"
                + " at positions 0, 1, 2.", Promise04AddClauseTest::literalsGoToTheirPositions);
        Checks.sentence("BAD_KIND if kind is neither SOFT nor HARD.", Promise04AddClauseTest::badKindsAreRefused);
        Checks.sentence("BAD_LITERAL if any of a, b, c is below -V or above V.",
                Promise04AddClauseTest::literalsBelowAreRefused, Promise04AddClauseTest::literalsAboveAreRefused,
                Promise04AddClauseTest::everyLiteralInRangeIsTaken);
        Checks.sentence("The value 0 is allowed and means absent; all three may be 0.",
                Promise04AddClauseTest::absentLiteralsAreTaken, Promise04AddClauseTest::allThreeMayBeAbsent);
        Checks.sentence("FULL if no slot is empty.", Promise04AddClauseTest::fullIsRefused);
        Checks.sentence("In this order:", Promise04AddClauseTest::refusalsKeepTheirOrder);
        Checks.sentence("Otherwise the clause, of that kind, goes into the lowest-numbered empty slot, the object"
                + " becomes not ready (or stays so), and the number of that slot is the answer.",
                Promise04AddClauseTest::goesIntoTheLowestEmptySlot, Promise04AddClauseTest::isOfThatKind,
                Promise04AddClauseTest::becomesNotReady, Promise04AddClauseTest::staysNotReady);
        Checks.sentence("A slot emptied by removeClause counts as empty again.",
                Promise04AddClauseTest::emptiedSlotsAreFilledAgain,
                Promise04AddClauseTest::theOnlySlotIsFilledAgainAndAgain);
        Checks.sentence("The literals are kept exactly as given, in their positions,"
                + " with repeated or opposite literals left as they are.",
                Promise04AddClauseTest::keepsLiteralsAsGiven, Promise04AddClauseTest::keepsRepeatedAndOppositeLiterals);
        Checks.sentence("A clause equal to one in another slot is added like any other.",
                Promise04AddClauseTest::equalClausesAreAdded);
        Checks.sentence("All other slots are unchanged.", Promise04AddClauseTest::otherSlotsAreUnchanged);
        Checks.finish();
    }

    private static void literalsGoToTheirPositions() {
        for (int kind = CoreEnumerator.SOFT; kind <= CoreEnumerator.HARD; kind++) {
            CoreEnumerator x = new CoreEnumerator(5, 2);
            Checks.add(x, 0, kind, -5, 1, 5);
            Checks.add(x, 1, kind, 4, 0, -2);
            Checks.dueLiterals(x, 0, -5, 1, 5);
            Checks.dueLiterals(x, 1, 4, 0, -2);
        }
    }

    private static void badKindsAreRefused() {
        State.eachBadKind((state, kind) -> refused(state.x, kind, 1, 0, -1, CoreEnumerator.BAD_KIND));
    }

    private static void literalsBelowAreRefused() {
        for (State state : State.all()) {
            refuseLiteral(state, -state.variables - 1);
            refuseLiteral(state, -6);
            refuseLiteral(state, -32);
            refuseLiteral(state, Integer.MIN_VALUE + 1);
            refuseLiteral(state, Integer.MIN_VALUE);
        }
    }

    private static void literalsAboveAreRefused() {
        for (State state : State.all()) {
            refuseLiteral(state, state.variables + 1);
            refuseLiteral(state, 6);
            refuseLiteral(state, 33);
            refuseLiteral(state, Integer.MAX_VALUE - 1);
            refuseLiteral(state, Integer.MAX_VALUE);
        }
    }

    private static void refuseLiteral(State state, int literal) {
        refused(state.x, CoreEnumerator.SOFT, literal, 0, 0, CoreEnumerator.BAD_LITERAL);
        refused(state.x, CoreEnumerator.HARD, 1, literal, 0, CoreEnumerator.BAD_LITERAL);
        refused(state.x, CoreEnumerator.SOFT, 0, -1, literal, CoreEnumerator.BAD_LITERAL);
        refused(state.x, CoreEnumerator.HARD, literal, literal, literal, CoreEnumerator.BAD_LITERAL);
    }

    private static void everyLiteralInRangeIsTaken() {
        for (int variables = 1; variables <= 5; variables++) {
            for (int literal = -variables; literal <= variables; literal++) {
                Checks.object(variables, 4, Checks.soft(literal, 0, 0), Checks.hard(0, literal, 0),
                        Checks.soft(0, 0, literal), Checks.hard(literal, literal, literal));
            }
        }
    }

    private static void absentLiteralsAreTaken() {
        CoreEnumerator x = Checks.object(3, 6, Checks.soft(0, 3, 3), Checks.soft(3, 0, 3), Checks.soft(3, 3, 0),
                Checks.soft(0, 0, 3), Checks.soft(0, 3, 0), Checks.soft(3, 0, 0));
        Checks.due("literal(0, 0)", x.literal(0, 0), 0);
        Checks.due("literal(1, 1)", x.literal(1, 1), 0);
        Checks.due("literal(2, 2)", x.literal(2, 2), 0);
        for (int slot = 0; slot < 6; slot++) {
            Checks.due("witness of slot " + slot, x.witness(1 << slot), 4);
        }
    }

    private static void allThreeMayBeAbsent() {
        for (int variables = 1; variables <= 5; variables++) {
            CoreEnumerator x = Checks.object(variables, 3, Checks.soft(0, 0, 0), Checks.soft(1, 0, 0));
            Checks.dueLiterals(x, 0, 0, 0, 0);
            Checks.dueLists(x, Checks.masks(1), Checks.masks(2));
            Checks.add(x, 2, CoreEnumerator.HARD, 0, 0, 0);
            Checks.dueLiterals(x, 2, 0, 0, 0);
            Checks.dueLists(x, Checks.masks(0), Checks.masks());
        }
    }

    private static void fullIsRefused() {
        for (int capacity = 1; capacity <= 8; capacity++) {
            CoreEnumerator x = new CoreEnumerator(2, capacity);
            for (int slot = 0; slot < capacity; slot++) {
                Checks.add(x, slot, CoreEnumerator.SOFT, slot % 2 == 0 ? 1 : -1, 0, 0);
            }
            refused(x, CoreEnumerator.SOFT, 1, 0, 0, CoreEnumerator.FULL);
            x.enumerate();
            x.emit(CoreEnumerator.MAXIMAL);
            refused(x, CoreEnumerator.HARD, 0, 0, 0, CoreEnumerator.FULL);
            x.setKind(capacity - 1, CoreEnumerator.HARD);
            refused(x, CoreEnumerator.SOFT, 2, -2, 1, CoreEnumerator.FULL);
        }
    }

    private static void refusalsKeepTheirOrder() {
        for (State state : State.all()) {
            for (int bad : new int[] {Integer.MIN_VALUE, -6, 6, Integer.MAX_VALUE}) {
                refused(state.x, bad, bad, 0, 0, CoreEnumerator.BAD_KIND);
                refused(state.x, bad, 0, bad, 0, CoreEnumerator.BAD_KIND);
                refused(state.x, bad, 0, 0, bad, CoreEnumerator.BAD_KIND);
            }
            if (state.isFull()) {
                int above = state.variables + 1;
                refused(state.x, 2, 1, 0, 0, CoreEnumerator.BAD_KIND);
                refused(state.x, -1, above, above, above, CoreEnumerator.BAD_KIND);
                refused(state.x, CoreEnumerator.SOFT, 0, -above, 0, CoreEnumerator.BAD_LITERAL);
                refused(state.x, CoreEnumerator.HARD, above, 0, 0, CoreEnumerator.BAD_LITERAL);
                refused(state.x, CoreEnumerator.SOFT, 0, 0, Integer.MIN_VALUE, CoreEnumerator.BAD_LITERAL);
                refused(state.x, CoreEnumerator.SOFT, 0, 1 - above, 0, CoreEnumerator.FULL);
            }
        }
    }

    private static void goesIntoTheLowestEmptySlot() {
        for (int capacity = 1; capacity <= 8; capacity++) {
            CoreEnumerator x = new CoreEnumerator(3, capacity);
            for (int slot = 0; slot < capacity; slot++) {
                Checks.add(x, slot, slot % 2, slot % 4, 0, 0);
                Checks.dueLiterals(x, slot, slot % 4, 0, 0);
            }
        }
        for (State state : State.all()) {
            if (!state.isFull()) {
                int lowest = Integer.numberOfTrailingZeros(~(state.soft | state.hard));
                Checks.add(state.x, lowest, CoreEnumerator.SOFT, 1, 0, -1);
                Checks.dueLiterals(state.x, lowest, 1, 0, -1);
            }
        }
    }

    private static void isOfThatKind() {
        CoreEnumerator x = Checks.object(3, 3, Checks.hard(1, 0, 0));
        Checks.dueSlots(x, 0, 1);
        Checks.add(x, 1, CoreEnumerator.SOFT, 1, 0, 0);
        Checks.dueSlots(x, 2, 1);
        x.removeClause(0);
        Checks.add(x, 0, CoreEnumerator.SOFT, 1, 0, 0);
        Checks.dueSlots(x, 3, 0);
        x.removeClause(1);
        Checks.add(x, 1, CoreEnumerator.HARD, 1, 0, 0);
        Checks.dueSlots(x, 1, 2);
    }

    private static void becomesNotReady() {
        for (State state : State.ready()) {
            if (!state.isFull()) {
                state.x.addClause(CoreEnumerator.SOFT, 1, 0, 0);
                Checks.dueNotReady(state.x, "after addClause, " + state.name);
            }
        }
        CoreEnumerator hard = Checks.halfEmittedExample();
        Checks.add(hard, 4, CoreEnumerator.HARD, 1, -1, 0);
        Checks.dueNotReady(hard, "after addClause of a HARD clause");
    }

    private static void staysNotReady() {
        for (State state : State.notReady()) {
            if (!state.isFull()) {
                state.x.addClause(CoreEnumerator.HARD, -1, 0, 0);
                Checks.dueNotReady(state.x, "after addClause, " + state.name);
            }
        }
    }

    private static void emptiedSlotsAreFilledAgain() {
        CoreEnumerator x = new CoreEnumerator(3, 5);
        for (int slot = 0; slot < 5; slot++) {
            Checks.add(x, slot, slot == 1 || slot == 4 ? CoreEnumerator.HARD : CoreEnumerator.SOFT, 1, slot % 3, -1);
        }
        Checks.dueSlots(x, 13, 18);
        x.removeClause(3);
        x.removeClause(1);
        Checks.add(x, 1, CoreEnumerator.SOFT, -3, -2, -1);
        Checks.add(x, 3, CoreEnumerator.HARD, 3, 2, 1);
        refused(x, CoreEnumerator.SOFT, 1, 0, 0, CoreEnumerator.FULL);
        Checks.dueSlots(x, 7, 24);
        Checks.dueLiterals(x, 0, 1, 0, -1);
        Checks.dueLiterals(x, 1, -3, -2, -1);
        Checks.dueLiterals(x, 2, 1, 2, -1);
        Checks.dueLiterals(x, 3, 3, 2, 1);
        Checks.dueLiterals(x, 4, 1, 1, -1);
    }

    private static void theOnlySlotIsFilledAgainAndAgain() {
        CoreEnumerator x = new CoreEnumerator(2, 1);
        for (int round = 0; round < 100; round++) {
            Checks.add(x, 0, round % 2, round % 3, 0, -(round % 3));
            refused(x, CoreEnumerator.SOFT, 0, 0, 0, CoreEnumerator.FULL);
            Checks.dueLiterals(x, 0, round % 3, 0, -(round % 3));
            Checks.due("removeClause(0)", x.removeClause(0), CoreEnumerator.DONE);
        }
    }

    private static void keepsLiteralsAsGiven() {
        int[][] clauses = {
            {0, 0, 0}, {0, 0, 5}, {-5, 0, 4}, {5, -4, 3}, {3, 2, 1}, {1, 2, 3}, {-3, -2, -1}, {0, -4, 0}
        };
        dueKept(clauses);
    }

    private static void keepsRepeatedAndOppositeLiterals() {
        int[][] clauses = {
            {5, 5, 0}, {-5, 0, -5}, {0, 1, 1}, {-1, -1, -1}, {5, -5, 0}, {-1, 0, 1}, {0, 2, -2}, {3, -3, 3}
        };
        dueKept(clauses);
    }

    private static void dueKept(int[][] clauses) {
        CoreEnumerator x = new CoreEnumerator(5, 8);
        for (int slot = 0; slot < clauses.length; slot++) {
            Checks.add(x, slot, CoreEnumerator.SOFT, clauses[slot][0], clauses[slot][1], clauses[slot][2]);
        }
        x.enumerate();
        for (int slot = 0; slot < clauses.length; slot++) {
            Checks.dueLiterals(x, slot, clauses[slot][0], clauses[slot][1], clauses[slot][2]);
        }
    }

    private static void equalClausesAreAdded() {
        CoreEnumerator x = new CoreEnumerator(3, 8);
        for (int slot = 0; slot < 8; slot++) {
            Checks.add(x, slot, slot / 4, 3, -2, 3);
        }
        Checks.dueSlots(x, 15, 240);
        for (int slot = 0; slot < 8; slot++) {
            Checks.dueLiterals(x, slot, 3, -2, 3);
        }
    }

    private static void otherSlotsAreUnchanged() {
        for (int added = 0; added < 8; added++) {
            CoreEnumerator x = new CoreEnumerator(5, 8);
            for (int slot = 0; slot < 8; slot++) {
                Checks.add(x, slot, slot % 2, slot % 5 + 1, 0, -(slot % 3));
            }
            x.removeClause(added);
            Checks.add(x, added, CoreEnumerator.SOFT, 5, 5, 5);
            Checks.dueSlots(x, 0x55 | 1 << added, 0xAA & ~(1 << added));
            for (int slot = 0; slot < 8; slot++) {
                if (slot != added) {
                    Checks.dueLiterals(x, slot, slot % 5 + 1, 0, -(slot % 3));
                }
            }
        }
    }

    private static void refused(CoreEnumerator x, int kind, int a, int b, int c, int due) {
        String call = "addClause(" + kind + ", " + a + ", " + b + ", " + c + ")";
        Checks.dueUnchanged(x, call, () -> x.addClause(kind, a, b, c), due);
    }
}
