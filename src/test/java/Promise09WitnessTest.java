/** Promise 9: the least satisfying assignment. */
public final class Promise09WitnessTest {
    public static void main(String[] args) {
        singleLiterals();
        everyAssignmentCanBeForced();
        clausesOfSeveralLiterals();
        hardClausesAlwaysCount();
        emptyAndAlwaysTrueClauses();
        emissionsHaveNoInfluence();
        badMasksAreRefused();
        Checks.finish();
    }

    private static void singleLiterals() {
        for (int v = 1; v <= 5; v++) {
            CoreEnumerator x = new CoreEnumerator(5, 2);
            Checks.add(x, 0, CoreEnumerator.SOFT, 0, v, 0);
            Checks.add(x, 1, CoreEnumerator.SOFT, 0, 0, -v);
            dueWitness(x, 0, 0);
            dueWitness(x, 1, 1 << (v - 1));
            dueWitness(x, 2, 0);
            dueWitness(x, 3, CoreEnumerator.NONE);
        }
    }

    private static void everyAssignmentCanBeForced() {
        for (int variables = 1; variables <= 5; variables++) {
            for (int assignment = 0; assignment < 1 << variables; assignment++) {
                CoreEnumerator x = new CoreEnumerator(variables, 8);
                for (int v = 1; v <= variables; v++) {
                    boolean value = (assignment >> (v - 1) & 1) == 1;
                    Checks.add(x, v - 1, v % 2, value ? v : -v, 0, 0);
                }
                dueWitness(x, x.slots(CoreEnumerator.SOFT), assignment);
            }
        }
    }

    private static void clausesOfSeveralLiterals() {
        CoreEnumerator x = new CoreEnumerator(4, 4);
        Checks.add(x, 0, CoreEnumerator.SOFT, 4, 3, 2);
        Checks.add(x, 1, CoreEnumerator.SOFT, -2, 1, 0);
        Checks.add(x, 2, CoreEnumerator.SOFT, -1, 0, -1);
        Checks.add(x, 3, CoreEnumerator.SOFT, 0, -3, 4);
        dueWitness(x, 1, 2);
        dueWitness(x, 3, 3);
        dueWitness(x, 5, 2);
        dueWitness(x, 7, 4);
        dueWitness(x, 15, 8);
        dueWitness(x, 14, 0);
    }

    private static void hardClausesAlwaysCount() {
        CoreEnumerator x = new CoreEnumerator(3, 4);
        Checks.add(x, 0, CoreEnumerator.SOFT, -3, 0, 0);
        Checks.add(x, 1, CoreEnumerator.HARD, 3, 2, 0);
        Checks.add(x, 2, CoreEnumerator.SOFT, -2, 0, 0);
        dueWitness(x, 0, 2);
        dueWitness(x, 1, 2);
        dueWitness(x, 4, 4);
        dueWitness(x, 5, CoreEnumerator.NONE);
        Checks.add(x, 3, CoreEnumerator.HARD, 0, 0, 0);
        dueWitness(x, 0, CoreEnumerator.NONE);
        dueWitness(x, 4, CoreEnumerator.NONE);
        dueWitness(x, 2, CoreEnumerator.BAD_MASK);
    }

    private static void emptyAndAlwaysTrueClauses() {
        CoreEnumerator x = new CoreEnumerator(1, 3);
        Checks.add(x, 0, CoreEnumerator.SOFT, 0, 0, 0);
        Checks.add(x, 1, CoreEnumerator.SOFT, 1, -1, 0);
        Checks.add(x, 2, CoreEnumerator.SOFT, 1, 1, 1);
        dueWitness(x, 0, 0);
        dueWitness(x, 1, CoreEnumerator.NONE);
        dueWitness(x, 2, 0);
        dueWitness(x, 3, CoreEnumerator.NONE);
        dueWitness(x, 6, 1);
    }

    private static void emissionsHaveNoInfluence() {
        CoreEnumerator x = Checks.example();
        dueExample(x);
        x.enumerate();
        dueExample(x);
        for (int i = 0; i < 4; i++) {
            x.emit(CoreEnumerator.CORE);
            dueExample(x);
            x.emit(CoreEnumerator.MAXIMAL);
            dueExample(x);
        }
    }

    private static void dueExample(CoreEnumerator x) {
        int none = CoreEnumerator.NONE;
        int[] due = {0, 1, 0, none, 2, 3, 2, none, 0, 1, 0, none, 2, none, 2, none};
        for (int mask = 0; mask < due.length; mask++) {
            dueWitness(x, mask, due[mask]);
        }
    }

    private static void badMasksAreRefused() {
        CoreEnumerator x = new CoreEnumerator(2, 4);
        Checks.add(x, 0, CoreEnumerator.SOFT, 1, 0, 0);
        Checks.add(x, 1, CoreEnumerator.HARD, 0, 0, 0);
        Checks.add(x, 2, CoreEnumerator.SOFT, 2, 0, 0);
        dueBadMasks(x);
        x.enumerate();
        dueBadMasks(x);
    }

    private static void dueBadMasks(CoreEnumerator x) {
        for (int mask : new int[] {2, 3, 6, 7, 8, 9, 13, 16, 32, 64, 128, 255}) {
            dueWitness(x, mask, CoreEnumerator.BAD_MASK);
        }
        for (int far : Checks.FAR_INTS) {
            dueWitness(x, far, CoreEnumerator.BAD_MASK);
            dueWitness(x, far | 1, CoreEnumerator.BAD_MASK);
        }
        dueWitness(x, 5, CoreEnumerator.NONE);
    }

    private static void dueWitness(CoreEnumerator x, int mask, int due) {
        Checks.dueUnchanged(x, "witness(" + mask + ")", () -> x.witness(mask), due);
    }
}
