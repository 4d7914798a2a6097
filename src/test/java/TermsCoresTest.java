/** The section 'Terms' of the document: satisfiable subsets, cores and maximals. */
public final class TermsCoresTest {
    public static void main(String[] args) {
        Checks.sentence("Subset M is satisfiable when some assignment makes true every clause in the slots of M"
                + " and every HARD clause.", TermsCoresTest::hardClausesTakePart);
        Checks.sentence("An unsatisfiable subset all of whose proper subsets are satisfiable.",
                TermsCoresTest::coresAreMinimal);
        Checks.sentence("The empty set is a core, and the only one, when it is unsatisfiable.",
                TermsCoresTest::theEmptySetAsTheOnlyCore);
        Checks.sentence("A satisfiable subset that is in no larger satisfiable subset.",
                TermsCoresTest::maximalsAreMaximal);
        Checks.sentence("There is none when the empty set is unsatisfiable.", TermsCoresTest::noMaximalAtAll);
        Checks.sentence("If F is satisfiable, F is the only one, even when F is empty.",
                TermsCoresTest::theWholeAsTheOnlyMaximal, TermsCoresTest::theEmptyWholeAsTheOnlyMaximal);
        Checks.finish();
    }

    private static void hardClausesTakePart() {
        CoreEnumerator x = Checks.object(2, 3, Checks.soft(1, 0, 0), Checks.soft(2, 0, 0), Checks.hard(-1, -2, 0));
        dueWitness(x, 3, CoreEnumerator.NONE);
        Checks.dueLists(x, Checks.masks(3), Checks.masks(2, 1));
        x.removeClause(2);
        dueWitness(x, 3, 3);
        Checks.dueLists(x, Checks.masks(), Checks.masks(3));
    }

    private static void coresAreMinimal() {
        CoreEnumerator x = Checks.object(2, 4,
                Checks.soft(1, 0, 0), Checks.soft(2, 0, 0), Checks.soft(-1, 0, 0), Checks.soft(0, 0, 0));
        Checks.dueLists(x, Checks.masks(5, 8), Checks.masks(6, 3));
    }

    private static void theEmptySetAsTheOnlyCore() {
        CoreEnumerator x = Checks.object(2, 5, Checks.hard(2, 0, 0), Checks.hard(-2, 0, 0));
        Checks.dueLists(x, Checks.masks(0), Checks.masks());
        Checks.add(x, 2, CoreEnumerator.SOFT, 0, 0, 0);
        Checks.add(x, 3, CoreEnumerator.SOFT, 1, 0, 0);
        Checks.add(x, 4, CoreEnumerator.SOFT, -1, 0, 0);
        Checks.dueLists(x, Checks.masks(0), Checks.masks());
        x.setKind(1, CoreEnumerator.SOFT);
        Checks.dueLists(x, Checks.masks(2, 4, 24), Checks.masks(16, 8));
    }

    private static void maximalsAreMaximal() {
        CoreEnumerator x = Checks.object(3, 4,
                Checks.soft(1, 0, 0), Checks.soft(-1, 0, 0), Checks.soft(2, 0, 0), Checks.soft(3, 0, 0));
        Checks.dueLists(x, Checks.masks(3), Checks.masks(14, 13));
    }

    private static void noMaximalAtAll() {
        CoreEnumerator x = Checks.object(1, 3, Checks.hard(0, 0, 0));
        Checks.dueLists(x, Checks.masks(0), Checks.masks());
        Checks.add(x, 1, CoreEnumerator.SOFT, 1, -1, 0);
        Checks.dueLists(x, Checks.masks(0), Checks.masks());
        x.removeClause(0);
        Checks.dueLists(x, Checks.masks(), Checks.masks(2));
    }

    private static void theWholeAsTheOnlyMaximal() {
        CoreEnumerator x = new CoreEnumerator(5, 8);
        for (int slot = 0; slot < 8; slot++) {
            Checks.add(x, slot, CoreEnumerator.SOFT, slot % 5 + 1, 0, 0);
            Checks.dueLists(x, Checks.masks(), Checks.masks((2 << slot) - 1));
        }
        x.removeClause(3);
        x.setKind(6, CoreEnumerator.HARD);
        Checks.dueLists(x, Checks.masks(), Checks.masks(255 - 8 - 64));
    }

    private static void theEmptyWholeAsTheOnlyMaximal() {
        CoreEnumerator x = new CoreEnumerator(2, 2);
        Checks.dueLists(x, Checks.masks(), Checks.masks(0));
        Checks.add(x, 0, CoreEnumerator.HARD, 2, 0, 0);
        Checks.dueLists(x, Checks.masks(), Checks.masks(0));
    }

    private static void dueWitness(CoreEnumerator x, int mask, int due) {
        Checks.due("witness(" + mask + ")", x.witness(mask), due);
    }
}
