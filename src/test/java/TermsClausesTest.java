/** The section 'Terms' of the document: literals, assignments, clauses and slots. */
public final class TermsClausesTest {
    public static void main(String[] args) {
        Checks.sentence("They are numbered 1 .. V.", TermsClausesTest::variablesAreNumberedFromOne);
        Checks.sentence("v (1 <= v <= V) is true when variable v is true; -v is true when variable v is false.",
                TermsClausesTest::literalsOfEveryVariable);
        Checks.sentence("An int 0 .. 2^V - 1.", TermsClausesTest::theLeastAndTheGreatestAssignment);
        Checks.sentence("Bit v-1 (value 1 << (v-1)) is 1 when variable v is true and 0 when it is false.",
                TermsClausesTest::oneTrueVariableIsOneBit);
        Checks.sentence("An assignment gives a value to every variable.",
                TermsClausesTest::variablesInNoClauseAreFalse);
        Checks.sentence("A clause has three positions 0, 1, 2, each holding a literal or 0 (absent).",
                TermsClausesTest::threePositions);
        Checks.sentence("It is true under an assignment when at least one of its literals is true there;"
                + " absent positions add nothing.", TermsClausesTest::everyClauseUnderEveryAssignment);
        Checks.sentence("So a clause with three absent positions is never true.",
                TermsClausesTest::absentSoftClauseIsNeverTrue, TermsClausesTest::absentHardClauseIsNeverTrue);
        Checks.sentence("The same literal may stand twice, and v may stand beside -v"
                + " (such a clause is always true).",
                TermsClausesTest::repeatedLiterals, TermsClausesTest::oppositeLiteralsAreAlwaysTrue);
        Checks.sentence("Nothing is simplified; equal clauses in different slots are different clauses.",
                TermsClausesTest::nothingIsSimplified, TermsClausesTest::equalClausesAreDifferent);
        Checks.sentence("There are C slots, numbered 0 .. C-1, each empty or holding one clause,"
                + " which is SOFT or HARD.", TermsClausesTest::slotsOfEveryCapacity);
        Checks.sentence("Clauses never move between slots.", TermsClausesTest::clausesNeverMove);
        Checks.finish();
    }

    private static void variablesAreNumberedFromOne() {
        for (int variables = 1; variables <= 5; variables++) {
            int above = variables + 1;
            CoreEnumerator x = Checks.object(variables, 3,
                    Checks.soft(1, variables, 0), Checks.soft(0, -1, -variables));
            Checks.due("literal V+1", x.addClause(CoreEnumerator.SOFT, above, 0, 0), CoreEnumerator.BAD_LITERAL);
            Checks.due("literal -V-1", x.addClause(CoreEnumerator.SOFT, 0, -above, 0), CoreEnumerator.BAD_LITERAL);
            Checks.add(x, 2, CoreEnumerator.SOFT, 0, 0, 0);
            dueWitness(x, 4, CoreEnumerator.NONE);
        }
    }

    private static void literalsOfEveryVariable() {
        for (int variables = 1; variables <= 5; variables++) {
            for (int v = 1; v <= variables; v++) {
                for (int assignment = 0; assignment < 1 << variables; assignment++) {
                    boolean value = (assignment >> (v - 1)) % 2 == 1;
                    CoreEnumerator x = Checks.forced(variables, 8, assignment);
                    Checks.add(x, variables, CoreEnumerator.SOFT, v, 0, 0);
                    Checks.add(x, variables + 1, CoreEnumerator.SOFT, -v, 0, 0);
                    dueWitness(x, 1 << variables, value ? assignment : CoreEnumerator.NONE);
                    dueWitness(x, 2 << variables, value ? CoreEnumerator.NONE : assignment);
                }
            }
        }
    }

    private static void theLeastAndTheGreatestAssignment() {
        int[] greatest = {0, 1, 3, 7, 15, 31};
        for (int variables = 1; variables <= 5; variables++) {
            dueWitness(Checks.forced(variables, 8, 0), 0, 0);
            CoreEnumerator x = Checks.forced(variables, 8, greatest[variables]);
            dueWitness(x, 0, greatest[variables]);
            Checks.add(x, variables, CoreEnumerator.SOFT, -variables, 0, 0);
            dueWitness(x, 1 << variables, CoreEnumerator.NONE);
        }
    }

    private static void oneTrueVariableIsOneBit() {
        int[] bits = {0, 1, 2, 4, 8, 16};
        for (int v = 1; v <= 5; v++) {
            dueWitness(Checks.object(5, 1, Checks.soft(v, 0, 0)), 1, bits[v]);
            dueWitness(Checks.object(5, 1, Checks.soft(-v, 0, 0)), 1, 0);
        }
    }

    private static void variablesInNoClauseAreFalse() {
        dueWitness(Checks.object(5, 2, Checks.soft(3, 0, 0)), 1, 4);
        dueWitness(Checks.object(5, 2, Checks.soft(3, 0, 0), Checks.hard(5, 0, 0)), 1, 20);
        dueWitness(new CoreEnumerator(5, 2), 0, 0);
    }

    private static void threePositions() {
        CoreEnumerator x = Checks.object(3, 3, Checks.soft(1, -2, 3), Checks.soft(0, -3, 0), Checks.soft(2, 0, 0));
        Checks.dueLiterals(x, 0, 1, -2, 3);
        Checks.dueLiterals(x, 1, 0, -3, 0);
        for (int slot = 0; slot < 3; slot++) {
            Checks.due("literal(" + slot + ", -1)", x.literal(slot, -1), CoreEnumerator.BAD_POSITION);
            Checks.due("literal(" + slot + ", 3)", x.literal(slot, 3), CoreEnumerator.BAD_POSITION);
        }
    }

    private static void everyClauseUnderEveryAssignment() {
        for (int assignment = 0; assignment < 8; assignment++) {
            CoreEnumerator x = Checks.forced(3, 4, assignment);
            for (int code = 0; code < 343; code++) {
                int a = code % 7 - 3;
                int b = code / 7 % 7 - 3;
                int c = code / 49 - 3;
                boolean isTrue = isTrue(a, assignment) || isTrue(b, assignment) || isTrue(c, assignment);
                Checks.add(x, 3, CoreEnumerator.SOFT, a, b, c);
                dueWitness(x, 8, isTrue ? assignment : CoreEnumerator.NONE);
                Checks.due("removeClause(3)", x.removeClause(3), CoreEnumerator.DONE);
            }
        }
    }

    private static boolean isTrue(int literal, int assignment) {
        boolean[] values = {false, assignment % 2 == 1, assignment / 2 % 2 == 1, assignment / 4 == 1};
        return literal > 0 && values[literal] || literal < 0 && !values[-literal];
    }

    private static void absentSoftClauseIsNeverTrue() {
        for (int assignment = 0; assignment < 32; assignment++) {
            CoreEnumerator x = Checks.forced(5, 8, assignment);
            Checks.add(x, 5, CoreEnumerator.SOFT, 0, 0, 0);
            dueWitness(x, 32, CoreEnumerator.NONE);
            dueWitness(x, 0, assignment);
            Checks.dueLists(x, Checks.masks(32), Checks.masks(0));
        }
    }

    private static void absentHardClauseIsNeverTrue() {
        for (int variables = 1; variables <= 5; variables++) {
            CoreEnumerator x = Checks.object(variables, 2, Checks.hard(0, 0, 0), Checks.soft(1, -1, 0));
            dueWitness(x, 0, CoreEnumerator.NONE);
            dueWitness(x, 2, CoreEnumerator.NONE);
            Checks.dueLists(x, Checks.masks(0), Checks.masks());
        }
    }

    private static void repeatedLiterals() {
        int[][] places = {{1, 1, 0}, {1, 0, 1}, {0, 1, 1}, {1, 1, 1}};
        for (int[] place : places) {
            for (int literal : new int[] {4, -4}) {
                CoreEnumerator x = new CoreEnumerator(4, 2);
                Checks.add(x, 0, CoreEnumerator.SOFT, literal * place[0], literal * place[1], literal * place[2]);
                Checks.dueLiterals(x, 0, literal * place[0], literal * place[1], literal * place[2]);
                dueWitness(x, 1, literal > 0 ? 8 : 0);
                Checks.add(x, 1, CoreEnumerator.SOFT, -literal, 0, 0);
                Checks.dueLists(x, Checks.masks(3), Checks.masks(2, 1));
            }
        }
    }

    private static void oppositeLiteralsAreAlwaysTrue() {
        int[][] clauses = {
            {2, -2, 0}, {-2, 2, 0}, {2, 0, -2}, {-2, 0, 2}, {0, 2, -2}, {0, -2, 2}, {2, -2, 2}, {-2, 2, 1}
        };
        for (int[] clause : clauses) {
            for (int assignment = 0; assignment < 4; assignment++) {
                CoreEnumerator x = Checks.forced(2, 3, assignment);
                Checks.add(x, 2, CoreEnumerator.SOFT, clause[0], clause[1], clause[2]);
                dueWitness(x, 4, assignment);
                Checks.dueLists(x, Checks.masks(), Checks.masks(4));
            }
        }
    }

    private static void nothingIsSimplified() {
        CoreEnumerator x = Checks.object(2, 4,
                Checks.soft(1, 1, 1), Checks.soft(2, -2, 0), Checks.hard(0, 0, 1), Checks.soft(0, 2, 1));
        x.enumerate();
        Checks.dueLiterals(x, 0, 1, 1, 1);
        Checks.dueLiterals(x, 1, 2, -2, 0);
        Checks.dueLiterals(x, 2, 0, 0, 1);
        Checks.dueLiterals(x, 3, 0, 2, 1);
        Checks.dueSlots(x, 11, 4);
    }

    private static void equalClausesAreDifferent() {
        CoreEnumerator x = Checks.object(1, 4, Checks.soft(1, 0, 0), Checks.soft(1, 0, 0), Checks.soft(-1, 0, 0));
        Checks.dueLists(x, Checks.masks(5, 6), Checks.masks(4, 3));
        Checks.add(x, 3, CoreEnumerator.HARD, 1, 0, 0);
        Checks.dueSlots(x, 7, 8);
        Checks.dueLists(x, Checks.masks(4), Checks.masks(3));
    }

    private static void slotsOfEveryCapacity() {
        for (int capacity = 1; capacity <= 8; capacity++) {
            CoreEnumerator x = new CoreEnumerator(2, capacity);
            for (int slot = 0; slot < capacity; slot++) {
                Checks.due("literal of an empty slot", x.literal(slot, 0), CoreEnumerator.BAD_SLOT);
                Checks.add(x, slot, slot % 2, 2, 0, 0);
                Checks.due("literal of a filled slot", x.literal(slot, 0), 2);
                int filled = (2 << slot) - 1;
                Checks.dueSlots(x, filled & 0x55, filled & 0xAA);
            }
            Checks.due("literal of slot C", x.literal(capacity, 0), CoreEnumerator.BAD_SLOT);
            Checks.due("one clause too many", x.addClause(CoreEnumerator.SOFT, 1, 0, 0), CoreEnumerator.FULL);
        }
    }

    private static void clausesNeverMove() {
        CoreEnumerator x = Checks.object(5, 5, Checks.soft(1, 0, 0), Checks.hard(2, 0, 0), Checks.soft(3, 0, 0),
                Checks.hard(4, 0, 0), Checks.soft(5, 0, 0));
        x.removeClause(0);
        x.removeClause(1);
        x.removeClause(3);
        x.setKind(4, CoreEnumerator.HARD);
        x.enumerate();
        x.emit(CoreEnumerator.MAXIMAL);
        Checks.dueLiterals(x, 2, 3, 0, 0);
        Checks.dueLiterals(x, 4, 5, 0, 0);
        Checks.dueSlots(x, 4, 16);
        Checks.add(x, 0, CoreEnumerator.SOFT, -1, 0, 0);
        Checks.add(x, 1, CoreEnumerator.SOFT, -2, 0, 0);
        Checks.dueLiterals(x, 2, 3, 0, 0);
        Checks.dueLiterals(x, 4, 5, 0, 0);
        Checks.dueSlots(x, 7, 16);
    }

    private static void dueWitness(CoreEnumerator x, int mask, int due) {
        Checks.due("witness(" + mask + ")", x.witness(mask), due);
    }
}
