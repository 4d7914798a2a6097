/** Promise 14: what the emitted masks tell. */
public final class Promise14VerdictTest {
    public static void main(String[] args) {
        onlyEmittedMasksTell();
        theEmptyCoreTellsAll();
        theWholeMaximalTellsAll();
        staleEmissionsTellNothing();
        refusals();
        Checks.finish();
    }

    /** A letter for each of the masks 0 .. 15: o for OPEN, s for KNOWN_SAT, u for KNOWN_UNSAT. */
    private static void onlyEmittedMasksTell() {
        CoreEnumerator x = Checks.example();
        x.enumerate();
        dueVerdicts(x, "oooooooooooooooo");
        x.emit(CoreEnumerator.CORE);
        dueVerdicts(x, "ooouooouooouooou");
        x.emit(CoreEnumerator.MAXIMAL);
        dueVerdicts(x, "sosusosusosusosu");
        x.emit(CoreEnumerator.MAXIMAL);
        dueVerdicts(x, "sssusosusssusosu");
        x.emit(CoreEnumerator.CORE);
        dueVerdicts(x, "sssusosusssususu");
        x.emit(CoreEnumerator.MAXIMAL);
        dueVerdicts(x, "sssusssusssususu");
        x.enumerate();
        dueVerdicts(x, "oooooooooooooooo");
        x.emit(CoreEnumerator.MAXIMAL);
        dueVerdicts(x, "sosososososososo");
    }

    private static void theEmptyCoreTellsAll() {
        CoreEnumerator x = new CoreEnumerator(2, 5);
        Checks.add(x, 0, CoreEnumerator.SOFT, 1, 0, 0);
        Checks.add(x, 1, CoreEnumerator.SOFT, 2, 0, 0);
        Checks.add(x, 2, CoreEnumerator.HARD, 0, 0, 0);
        x.enumerate();
        dueVerdicts(x, "oooo");
        Checks.due("emit(CORE)", x.emit(CoreEnumerator.CORE), 0);
        dueVerdicts(x, "uuuu");
    }

    private static void theWholeMaximalTellsAll() {
        CoreEnumerator x = new CoreEnumerator(2, 5);
        x.enumerate();
        dueVerdicts(x, "o");
        Checks.due("emit(MAXIMAL)", x.emit(CoreEnumerator.MAXIMAL), 0);
        dueVerdicts(x, "s");
        Checks.add(x, 0, CoreEnumerator.SOFT, 1, 0, 0);
        Checks.add(x, 1, CoreEnumerator.SOFT, 2, 0, 0);
        x.enumerate();
        dueVerdicts(x, "oooo");
        Checks.due("emit(MAXIMAL)", x.emit(CoreEnumerator.MAXIMAL), 3);
        dueVerdicts(x, "ssss");
    }

    private static void staleEmissionsTellNothing() {
        CoreEnumerator x = Checks.halfEmittedExample();
        x.removeClause(3);
        Checks.due("verdict(3)", x.verdict(3), CoreEnumerator.NOT_READY);
        x.enumerate();
        dueVerdicts(x, "oooooooo");
    }

    private static void refusals() {
        CoreEnumerator x = new CoreEnumerator(2, 4);
        Checks.add(x, 0, CoreEnumerator.SOFT, 1, 0, 0);
        Checks.add(x, 1, CoreEnumerator.HARD, 2, 0, 0);
        Checks.add(x, 2, CoreEnumerator.SOFT, -1, 0, 0);
        dueBadMasks(x, CoreEnumerator.NOT_READY);
        dueVerdict(x, 0, CoreEnumerator.NOT_READY);
        dueVerdict(x, 5, CoreEnumerator.NOT_READY);
        x.enumerate();
        dueBadMasks(x, CoreEnumerator.BAD_MASK);
        Checks.dueEmissions(x, CoreEnumerator.CORE, 5);
        Checks.dueEmissions(x, CoreEnumerator.MAXIMAL, 4, 1);
        dueBadMasks(x, CoreEnumerator.BAD_MASK);
    }

    private static void dueBadMasks(CoreEnumerator x, int due) {
        for (int mask : new int[] {2, 3, 6, 7, 8, 12, 13, 16, 32, 64, 128, 255}) {
            dueVerdict(x, mask, due);
        }
        for (int far : Checks.FAR_INTS) {
            dueVerdict(x, far, due);
            dueVerdict(x, far | 5, due);
        }
    }

    private static void dueVerdicts(CoreEnumerator x, String letters) {
        for (int mask = 0; mask < letters.length(); mask++) {
            dueVerdict(x, mask, "osu".indexOf(letters.charAt(mask)));
        }
        dueVerdict(x, letters.length(), CoreEnumerator.BAD_MASK);
    }

    private static void dueVerdict(CoreEnumerator x, int mask, int due) {
        Checks.dueUnchanged(x, "verdict(" + mask + ")", () -> x.verdict(mask), due);
    }
}
