/** Promise 14: what the emitted masks tell. */
public final class Promise14VerdictTest {
    public static void main(String[] args) {
        Checks.sentence("verdict(int mask) says what the masks emitted since the last enumerate, and only they,"
                + " tell of mask.",
                Promise14VerdictTest::onlyEmittedMasksTell, Promise14VerdictTest::staleEmissionsTellNothing);
        Checks.sentence("NOT_READY if the object is not ready.", Promise14VerdictTest::notReadyIsRefused);
        Checks.sentence("BAD_MASK if mask is not a subset.",
                () -> State.eachNegativeMask(Promise14VerdictTest::dueBad),
                () -> State.eachMaskWithAnEmptySlot(Promise14VerdictTest::dueBad),
                () -> State.eachMaskWithAHardSlot(Promise14VerdictTest::dueBad),
                () -> State.eachMaskWithNoSuchSlot(Promise14VerdictTest::dueBad));
        Checks.sentence("In this order:", () -> State.eachBadMask(Promise14VerdictTest::dueBad));
        Checks.sentence("KNOWN_SAT if mask is contained in (or equal to) an emitted maximal;",
                Promise14VerdictTest::containedInAnEmittedMaximal, Promise14VerdictTest::theWholeMaximalTellsAll);
        Checks.sentence("KNOWN_UNSAT if mask contains (or equals) an emitted core;",
                Promise14VerdictTest::containsAnEmittedCore);
        Checks.sentence("OPEN if neither holds.", Promise14VerdictTest::openIfNeither);
        Checks.sentence("Both cannot hold.", Promise14VerdictTest::afterAllEverySubsetIsSettledOnce);
        Checks.sentence("Masks that are in a list but not yet emitted have no influence, so while nothing has been"
                + " emitted since the last enumerate the answer is OPEN for every subset.",
                Promise14VerdictTest::openWhileNothingIsEmitted);
        Checks.sentence("When the core 0 has been emitted, the answer is KNOWN_UNSAT for every subset.",
                Promise14VerdictTest::theEmptyCoreTellsAll);
        Checks.sentence("The call changes nothing.", () -> State.dueNoTrace(Promise14VerdictTest::askOfEveryMask));
        Checks.finish();
    }

    private static void onlyEmittedMasksTell() {
        CoreEnumerator x = Checks.example();
        x.enumerate();
        dueVerdicts(x, "oooooooooooooooo");
        x.emit(CoreEnumerator.CORE);
        dueVerdicts(x, "ooouooouooouooou");
        x.emit(CoreEnumerator.MAXIMAL);
        dueVerdicts(x, "sosusosusosusosu");
        x.emit(CoreEnumerator.MAXIMAL);
        dueVerdicts(x, "sssusosusssusosu");
        x.emit(CoreEnumerator.CORE);
        dueVerdicts(x, "sssusosusssususu");
        x.emit(CoreEnumerator.MAXIMAL);
        dueVerdicts(x, "sssusssusssususu");
        x.enumerate();
        dueVerdicts(x, "oooooooooooooooo");
        x.emit(CoreEnumerator.MAXIMAL);
        dueVerdicts(x, "sosososososososo");
    }

    private static void staleEmissionsTellNothing() {
        CoreEnumerator x = Checks.halfEmittedExample();
        x.removeClause(3);
        Checks.due("verdict(3)", x.verdict(3), CoreEnumerator.NOT_READY);
        x.enumerate();
        dueVerdicts(x, "oooooooo");
    }

    private static void notReadyIsRefused() {
        State.eachSubset((state, mask) -> {
            if (!state.ready) {
                dueVerdict(state.x, mask, CoreEnumerator.NOT_READY);
            }
        });
        CoreEnumerator x = Checks.halfEmittedExample();
        Checks.add(x, 4, CoreEnumerator.SOFT, 1, 0, 0);
        dueVerdict(x, 3, CoreEnumerator.NOT_READY);
        dueVerdict(x, 14, CoreEnumerator.NOT_READY);
    }

    private static void containedInAnEmittedMaximal() {
        CoreEnumerator x = Checks.example();
        x.enumerate();
        Checks.due("emit(MAXIMAL)", x.emit(CoreEnumerator.MAXIMAL), 14);
        dueVerdict(x, 14, CoreEnumerator.KNOWN_SAT);
        dueVerdict(x, 12, CoreEnumerator.KNOWN_SAT);
        dueVerdict(x, 2, CoreEnumerator.KNOWN_SAT);
        dueVerdict(x, 0, CoreEnumerator.KNOWN_SAT);
        dueVerdict(x, 15, CoreEnumerator.OPEN);
        dueVerdict(x, 9, CoreEnumerator.OPEN);
        Checks.due("emit(MAXIMAL)", x.emit(CoreEnumerator.MAXIMAL), 9);
        dueVerdict(x, 9, CoreEnumerator.KNOWN_SAT);
        dueVerdict(x, 1, CoreEnumerator.KNOWN_SAT);
        dueVerdict(x, 14, CoreEnumerator.KNOWN_SAT);
        dueVerdict(x, 5, CoreEnumerator.OPEN);
        dueVerdict(x, 11, CoreEnumerator.OPEN);
    }

    private static void theWholeMaximalTellsAll() {
        CoreEnumerator x = new CoreEnumerator(2, 5);
        x.enumerate();
        dueVerdicts(x, "o");
        Checks.due("emit(MAXIMAL)", x.emit(CoreEnumerator.MAXIMAL), 0);
        dueVerdicts(x, "s");
        Checks.add(x, 0, CoreEnumerator.SOFT, 1, 0, 0);
        Checks.add(x, 1, CoreEnumerator.SOFT, 2, 0, 0);
        x.enumerate();
        Checks.due("emit(MAXIMAL)", x.emit(CoreEnumerator.MAXIMAL), 3);
        dueVerdicts(x, "ssss");
    }

    private static void containsAnEmittedCore() {
        CoreEnumerator x = Checks.example();
        x.enumerate();
        Checks.due("emit(CORE)", x.emit(CoreEnumerator.CORE), 3);
        dueVerdict(x, 3, CoreEnumerator.KNOWN_UNSAT);
        dueVerdict(x, 7, CoreEnumerator.KNOWN_UNSAT);
        dueVerdict(x, 15, CoreEnumerator.KNOWN_UNSAT);
        dueVerdict(x, 1, CoreEnumerator.OPEN);
        dueVerdict(x, 2, CoreEnumerator.OPEN);
        dueVerdict(x, 13, CoreEnumerator.OPEN);
        Checks.due("emit(CORE)", x.emit(CoreEnumerator.CORE), 13);
        dueVerdict(x, 13, CoreEnumerator.KNOWN_UNSAT);
        dueVerdict(x, 3, CoreEnumerator.KNOWN_UNSAT);
        dueVerdict(x, 12, CoreEnumerator.OPEN);
        dueVerdict(x, 0, CoreEnumerator.OPEN);
    }

    private static void openIfNeither() {
        CoreEnumerator x = Checks.halfEmittedExample();
        for (int mask : new int[] {1, 5, 9, 13}) {
            dueVerdict(x, mask, CoreEnumerator.OPEN);
        }
    }

    private static void afterAllEverySubsetIsSettledOnce() {
        State.eachSubset((state, mask) -> {
            if (state.name.contains("all emitted")) {
                boolean satisfiable = state.x.witness(mask) >= 0;
                dueVerdict(state.x, mask, satisfiable ? CoreEnumerator.KNOWN_SAT : CoreEnumerator.KNOWN_UNSAT);
            }
        });
    }

    private static void openWhileNothingIsEmitted() {
        State.eachSubset((state, mask) -> {
            state.x.enumerate();
            dueVerdict(state.x, mask, CoreEnumerator.OPEN);
        });
    }

    private static void theEmptyCoreTellsAll() {
        CoreEnumerator x = Checks.object(2, 5, Checks.soft(1, 0, 0), Checks.soft(2, 0, 0), Checks.hard(0, 0, 0));
        x.enumerate();
        dueVerdicts(x, "oooo");
        Checks.due("emit(CORE)", x.emit(CoreEnumerator.CORE), 0);
        dueVerdicts(x, "uuuu");
        x.removeClause(0);
        x.removeClause(1);
        x.enumerate();
        dueVerdicts(x, "o");
        Checks.due("emit(CORE)", x.emit(CoreEnumerator.CORE), 0);
        dueVerdicts(x, "u");
    }

    private static void askOfEveryMask(State state) {
        for (int mask = 0; mask < 256; mask++) {
            state.x.verdict(mask);
        }
    }

    private static void dueBad(State state, int mask) {
        dueVerdict(state.x, mask, state.ready ? CoreEnumerator.BAD_MASK : CoreEnumerator.NOT_READY);
    }

    /** A letter for each mask from 0 on: o for OPEN, s for KNOWN_SAT, u for KNOWN_UNSAT. */
    private static void dueVerdicts(CoreEnumerator x, String letters) {
        for (int mask = 0; mask < letters.length(); mask++) {
            dueVerdict(x, mask, "osu".indexOf(letters.charAt(mask)));
        }
        dueVerdict(x, letters.length(), CoreEnumerator.BAD_MASK);
    }

    private static void dueVerdict(CoreEnumerator x, int mask, int due) {
        Checks.dueUnchanged(x, "verdict(" + mask + ")", () -> x.verdict(mask), due);
    }
}
