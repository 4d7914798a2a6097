/** Promise 9: the least satisfying assignment. */
public final class Promise09WitnessTest {
    public static void main(String[] args) {
        Checks.sentence("witness(int mask) works whether the object is ready or not.",
                Promise09WitnessTest::worksInEveryState);
        Checks.sentence("BAD_MASK if mask is not a subset.",
                () -> State.eachNegativeMask(Promise09WitnessTest::dueBad),
                () -> State.eachMaskWithAnEmptySlot(Promise09WitnessTest::dueBad),
                () -> State.eachMaskWithAHardSlot(Promise09WitnessTest::dueBad),
                () -> State.eachMaskWithNoSuchSlot(Promise09WitnessTest::dueBad));
        Checks.sentence("NONE if no assignment makes true every clause in the slots of mask and every HARD clause.",
                Promise09WitnessTest::noneForContradictions, Promise09WitnessTest::noneForAbsentClauses,
                Promise09WitnessTest::noneForAllAssignmentsExcluded);
        Checks.sentence("In this order:", Promise09WitnessTest::badMaskComesBeforeNone);
        Checks.sentence("Otherwise it answers the numerically least assignment that makes true every clause"
                + " in the slots of mask and every HARD clause.",
                Promise09WitnessTest::singleLiterals, Promise09WitnessTest::everyAssignmentCanBeForced,
                Promise09WitnessTest::clausesOfSeveralLiterals, Promise09WitnessTest::theLeastIsAnswered,
                Promise09WitnessTest::hardClausesAlwaysCount, Promise09WitnessTest::emptyAndAlwaysTrueClauses);
        Checks.sentence("For mask 0 only the HARD clauses matter; if there are none, the answer is 0.",
                Promise09WitnessTest::mask0WithHardClauses, Promise09WitnessTest::mask0WithoutHardClauses);
        Checks.sentence("Soft clauses outside mask have no influence.", Promise09WitnessTest::onlyTheMaskCounts);
        Checks.sentence("The answer does not depend on what has been emitted.",
                Promise09WitnessTest::emissionsHaveNoInfluence);
        Checks.sentence("It changes nothing.", () -> State.dueNoTrace(Promise09WitnessTest::askOfEveryMask));
        Checks.finish();
    }

    /** The same clauses have the same witnesses in the five phases that State makes. */
    private static void worksInEveryState() {
        for (State state : State.all()) {
            if (state.name.startsWith("four soft")) {
                dueExample(state.x);
            }
            if (state.name.startsWith("with a gap")) {
                int[] subsets = {0, 1, 8, 9, 16, 17, 24, 25};
                int none = CoreEnumerator.NONE;
                int[] due = {1, 2, 1, none, 5, 6, 5, none};
                for (int i = 0; i < subsets.length; i++) {
                    dueWitness(state.x, subsets[i], due[i]);
                }
            }
        }
    }

    private static void noneForContradictions() {
        CoreEnumerator x = Checks.object(5, 4,
                Checks.soft(5, 0, 0), Checks.soft(-5, 0, 0), Checks.hard(1, 2, 0), Checks.soft(-2, -2, -2));
        dueWitness(x, 3, CoreEnumerator.NONE);
        dueWitness(x, 11, CoreEnumerator.NONE);
        dueWitness(x, 9, 17);
        x.setKind(1, CoreEnumerator.HARD);
        dueWitness(x, 1, CoreEnumerator.NONE);
        x.setKind(0, CoreEnumerator.HARD);
        dueWitness(x, 0, CoreEnumerator.NONE);
        dueWitness(x, 8, CoreEnumerator.NONE);
    }

    private static void noneForAbsentClauses() {
        CoreEnumerator x = Checks.object(1, 2, Checks.soft(0, 0, 0), Checks.soft(1, 0, 0));
        dueWitness(x, 1, CoreEnumerator.NONE);
        dueWitness(x, 3, CoreEnumerator.NONE);
        dueWitness(x, 2, 1);
        x.setKind(0, CoreEnumerator.HARD);
        dueWitness(x, 0, CoreEnumerator.NONE);
        dueWitness(x, 2, CoreEnumerator.NONE);
    }

    private static void noneForAllAssignmentsExcluded() {
        CoreEnumerator x = Checks.eightExclusions();
        dueWitness(x, 255, CoreEnumerator.NONE);
        for (int slot = 0; slot < 8; slot++) {
            dueWitness(x, 255 - (1 << slot), slot);
        }
    }

    private static void badMaskComesBeforeNone() {
        CoreEnumerator x = Checks.object(2, 4, Checks.soft(1, 0, 0), Checks.hard(0, 0, 0), Checks.soft(2, 0, 0));
        dueWitness(x, 5, CoreEnumerator.NONE);
        for (int mask : new int[] {2, 3, 7, 8, 9, 13, 16, 255, 256, -1, Integer.MIN_VALUE, Integer.MAX_VALUE}) {
            dueWitness(x, mask, CoreEnumerator.BAD_MASK);
        }
        x.enumerate();
        dueWitness(x, 5, CoreEnumerator.NONE);
        dueWitness(x, 7, CoreEnumerator.BAD_MASK);
    }

    private static void singleLiterals() {
        for (int v = 1; v <= 5; v++) {
            CoreEnumerator x = Checks.object(5, 2, Checks.soft(0, v, 0), Checks.soft(0, 0, -v));
            dueWitness(x, 0, 0);
            dueWitness(x, 1, 1 << (v - 1));
            dueWitness(x, 2, 0);
            dueWitness(x, 3, CoreEnumerator.NONE);
        }
    }

    private static void everyAssignmentCanBeForced() {
        for (int variables = 1; variables <= 5; variables++) {
            for (int assignment = 0; assignment < 1 << variables; assignment++) {
                CoreEnumerator x = Checks.forced(variables, 8, assignment);
                dueWitness(x, 0, assignment);
                for (int slot = 0; slot < variables; slot += 2) {
                    x.setKind(slot, CoreEnumerator.SOFT);
                }
                dueWitness(x, x.slots(CoreEnumerator.SOFT), assignment);
            }
        }
    }

    private static void clausesOfSeveralLiterals() {
        CoreEnumerator x = Checks.object(4, 4,
                Checks.soft(4, 3, 2), Checks.soft(-2, 1, 0), Checks.soft(-1, 0, -1), Checks.soft(0, -3, 4));
        dueWitness(x, 1, 2);
        dueWitness(x, 3, 3);
        dueWitness(x, 5, 2);
        dueWitness(x, 7, 4);
        dueWitness(x, 15, 8);
        dueWitness(x, 14, 0);
    }

    /** Fewer true variables or fewer literals don't make an assignment less: its number does. */
    private static void theLeastIsAnswered() {
        CoreEnumerator x = Checks.object(5, 3, Checks.soft(5, 1, 0), Checks.soft(5, 2, 0), Checks.soft(5, 3, 4));
        dueWitness(x, 3, 3);
        dueWitness(x, 7, 7);
        CoreEnumerator high = Checks.object(5, 2, Checks.soft(5, 4, 0), Checks.hard(-4, 0, 0));
        dueWitness(high, 1, 16);
        dueWitness(high, 0, 0);
    }

    private static void hardClausesAlwaysCount() {
        CoreEnumerator x = Checks.object(3, 4, Checks.soft(-3, 0, 0), Checks.hard(3, 2, 0), Checks.soft(-2, 0, 0));
        dueWitness(x, 0, 2);
        dueWitness(x, 1, 2);
        dueWitness(x, 4, 4);
        dueWitness(x, 5, CoreEnumerator.NONE);
        Checks.add(x, 3, CoreEnumerator.HARD, 0, 0, 0);
        dueWitness(x, 0, CoreEnumerator.NONE);
        dueWitness(x, 4, CoreEnumerator.NONE);
        dueWitness(x, 2, CoreEnumerator.BAD_MASK);
    }

    private static void emptyAndAlwaysTrueClauses() {
        CoreEnumerator x = Checks.object(1, 3, Checks.soft(0, 0, 0), Checks.soft(1, -1, 0), Checks.soft(1, 1, 1));
        dueWitness(x, 0, 0);
        dueWitness(x, 1, CoreEnumerator.NONE);
        dueWitness(x, 2, 0);
        dueWitness(x, 3, CoreEnumerator.NONE);
        dueWitness(x, 6, 1);
    }

    private static void mask0WithHardClauses() {
        CoreEnumerator x = Checks.object(5, 4, Checks.hard(3, 0, 0), Checks.soft(1, 0, 0));
        dueWitness(x, 0, 4);
        Checks.add(x, 2, CoreEnumerator.HARD, -3, 5, 0);
        dueWitness(x, 0, 20);
        Checks.add(x, 3, CoreEnumerator.HARD, -5, 0, 0);
        dueWitness(x, 0, CoreEnumerator.NONE);
    }

    private static void mask0WithoutHardClauses() {
        dueWitness(new CoreEnumerator(5, 8), 0, 0);
        CoreEnumerator x = Checks.object(5, 4, Checks.soft(3, 0, 0), Checks.soft(0, 0, 0), Checks.hard(1, 0, 0));
        x.removeClause(2);
        dueWitness(x, 0, 0);
        x.enumerate();
        dueWitness(x, 0, 0);
    }

    private static void onlyTheMaskCounts() {
        CoreEnumerator x = Checks.object(3, 4,
                Checks.soft(0, 0, 0), Checks.soft(1, 0, 0), Checks.soft(2, 0, 0), Checks.soft(-1, 3, 0));
        dueWitness(x, 2, 1);
        dueWitness(x, 4, 2);
        dueWitness(x, 6, 3);
        dueWitness(x, 8, 0);
        dueWitness(x, 10, 5);
        dueWitness(x, 0, 0);
    }

    private static void emissionsHaveNoInfluence() {
        CoreEnumerator x = Checks.example();
        dueExample(x);
        x.enumerate();
        dueExample(x);
        for (int i = 0; i < 4; i++) {
            x.emit(CoreEnumerator.CORE);
            dueExample(x);
            x.emit(CoreEnumerator.MAXIMAL);
            dueExample(x);
        }
    }

    private static void dueExample(CoreEnumerator x) {
        int none = CoreEnumerator.NONE;
        int[] due = {0, 1, 0, none, 2, 3, 2, none, 0, 1, 0, none, 2, none, 2, none};
        for (int mask = 0; mask < due.length; mask++) {
            dueWitness(x, mask, due[mask]);
        }
    }

    private static void askOfEveryMask(State state) {
        for (int mask = 0; mask < 256; mask++) {
            state.x.witness(mask);
        }
    }

    private static void dueBad(State state, int mask) {
        dueWitness(state.x, mask, CoreEnumerator.BAD_MASK);
    }

    private static void dueWitness(CoreEnumerator x, int mask, int due) {
        Checks.dueUnchanged(x, "witness(" + mask + ")", () -> x.witness(mask), due);
    }
}
