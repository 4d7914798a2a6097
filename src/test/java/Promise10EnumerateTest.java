/** Promise 10: enumerating. */
public final class Promise10EnumerateTest {
    public static void main(String[] args) {
        Checks.sentence("enumerate() is never refused.", Promise10EnumerateTest::neverRefused);
        Checks.sentence("It makes the list of all cores, in rising order of their masks, and the list of all maximals,"
                + " in falling order of their masks, each mask once in its list, for the clauses and kinds held"
                + " at the moment.",
                Promise10EnumerateTest::coresRise, Promise10EnumerateTest::maximalsFall,
                Promise10EnumerateTest::gapsBetweenSoftSlots, Promise10EnumerateTest::theClausesOfTheMoment);
        Checks.sentence("Both lists are always complete, whatever their length.",
                Promise10EnumerateTest::manyCores, Promise10EnumerateTest::manyMaximals,
                Promise10EnumerateTest::eightCoresOfOneSlot, Promise10EnumerateTest::eightMaximalsOfSevenSlots);
        Checks.sentence("The object becomes ready, or stays ready, and both emission numbers become 0,"
                + " even when the object was ready already and masks had been emitted.",
                Promise10EnumerateTest::becomesReady, Promise10EnumerateTest::startsAfresh,
                Promise10EnumerateTest::startsAfreshAfterAll);
        Checks.sentence("The slots, clauses and kinds do not change.", Promise10EnumerateTest::changesNoClause);
        Checks.sentence("It answers the length of the list of cores plus the length of the list of maximals.",
                Promise10EnumerateTest::answersTheSum);
        Checks.sentence("If the empty set is unsatisfiable, the list of cores holds just 0, the list of maximals"
                + " is empty, and the answer is 1.", Promise10EnumerateTest::unsatisfiableEmptySet);
        Checks.sentence("If F is satisfiable, the list of cores is empty, the list of maximals holds just F,"
                + " and the answer is 1.", Promise10EnumerateTest::satisfiableWhole);
        Checks.sentence("This includes the case that F is empty and satisfiable; the only maximal is then 0.",
                Promise10EnumerateTest::emptyWhole);
        Checks.finish();
    }

    private static void neverRefused() {
        for (State state : State.all()) {
            for (int round = 0; round < 3; round++) {
                int answer = state.x.enumerate();
                Checks.due(state.name + "enumerate() answers " + answer + ", 1 or more", answer >= 1 ? 1 : 0, 1);
                int length = state.x.count(CoreEnumerator.CORE) + state.x.count(CoreEnumerator.MAXIMAL);
                Checks.due(state.name + "both lengths", length, answer);
            }
        }
    }

    /** Slot by slot the cores were found in another order: {3} and {4, 5} before {0, 6}. */
    private static void coresRise() {
        CoreEnumerator x = Checks.object(3, 7, Checks.soft(1, 0, 0), Checks.soft(3, 0, 0), Checks.soft(-3, 0, 0),
                Checks.soft(0, 0, 0), Checks.soft(2, 0, 0), Checks.soft(-2, 0, 0), Checks.soft(-1, 0, 0));
        Checks.due("enumerate()", x.enumerate(), 4 + 8);
        Checks.dueEmissions(x, CoreEnumerator.CORE, 6, 8, 48, 65);
    }

    private static void maximalsFall() {
        Checks.dueLists(Checks.example(), Checks.masks(3, 13), Checks.masks(14, 9, 5));
        CoreEnumerator x = Checks.object(1, 8, Checks.soft(1, 0, 0), Checks.soft(1, 0, 0), Checks.soft(1, 0, 0),
                Checks.soft(1, 0, 0), Checks.soft(1, 0, 0), Checks.soft(1, 0, 0), Checks.soft(1, 0, 0),
                Checks.soft(-1, 0, 0));
        Checks.dueLists(x, Checks.masks(129, 130, 132, 136, 144, 160, 192), Checks.masks(128, 127));
    }

    private static void gapsBetweenSoftSlots() {
        CoreEnumerator x = new CoreEnumerator(2, 8);
        for (int slot = 0; slot < 8; slot++) {
            Checks.add(x, slot, CoreEnumerator.SOFT, slot % 4 == 3 ? -1 : 1, 0, 0);
        }
        for (int slot : new int[] {0, 2, 4, 5}) {
            x.removeClause(slot);
        }
        x.setKind(6, CoreEnumerator.HARD);
        Checks.dueLists(x, Checks.masks(8, 128), Checks.masks(2));
        x.setKind(6, CoreEnumerator.SOFT);
        Checks.dueLists(x, Checks.masks(10, 72, 130, 192), Checks.masks(136, 66));
        Checks.add(x, 0, CoreEnumerator.SOFT, 0, 0, 0);
        Checks.dueLists(x, Checks.masks(1, 10, 72, 130, 192), Checks.masks(136, 66));
    }

    private static void theClausesOfTheMoment() {
        CoreEnumerator x = Checks.halfEmittedExample();
        x.removeClause(0);
        Checks.dueLists(x, Checks.masks(), Checks.masks(14));
        Checks.add(x, 0, CoreEnumerator.HARD, 0, 1, 0);
        Checks.dueLists(x, Checks.masks(2, 12), Checks.masks(8, 4));
        x.setKind(0, CoreEnumerator.SOFT);
        Checks.dueLists(x, Checks.masks(3, 13), Checks.masks(14, 9, 5));
    }

    /** One of three, one of three and one of two slots make a core. */
    private static void manyCores() {
        CoreEnumerator x = Checks.object(2, 8, Checks.soft(1, 0, 0), Checks.soft(1, 0, 0), Checks.soft(1, 0, 0),
                Checks.soft(-1, 2, 0), Checks.soft(-1, 2, 0), Checks.soft(-1, 2, 0),
                Checks.soft(-2, 0, 0), Checks.soft(-2, 0, 0));
        Checks.dueLists(x, Checks.masks(73, 74, 76, 81, 82, 84, 97, 98, 100,
                137, 138, 140, 145, 146, 148, 161, 162, 164), Checks.masks(248, 199, 63));
    }

    /** Two cores of three slots and one of two, without a slot in common: a maximal lacks one slot of each. */
    private static void manyMaximals() {
        CoreEnumerator x = Checks.object(5, 8, Checks.soft(1, 0, 0), Checks.soft(-1, 2, 0), Checks.soft(-2, 0, 0),
                Checks.soft(3, 0, 0), Checks.soft(-3, 4, 0), Checks.soft(-4, 0, 0),
                Checks.soft(5, 0, 0), Checks.soft(-5, 0, 0));
        Checks.dueLists(x, Checks.masks(7, 56, 192), Checks.masks(182, 181, 179, 174, 173, 171, 158, 157, 155,
                118, 117, 115, 110, 109, 107, 94, 93, 91));
    }

    private static void eightCoresOfOneSlot() {
        CoreEnumerator x = new CoreEnumerator(1, 8);
        for (int slot = 0; slot < 8; slot++) {
            Checks.add(x, slot, CoreEnumerator.SOFT, 0, 0, 0);
        }
        Checks.dueLists(x, Checks.masks(1, 2, 4, 8, 16, 32, 64, 128), Checks.masks(0));
    }

    private static void eightMaximalsOfSevenSlots() {
        CoreEnumerator x = Checks.eightExclusions();
        Checks.dueLists(x, Checks.masks(255), Checks.masks(254, 253, 251, 247, 239, 223, 191, 127));
    }

    private static void becomesReady() {
        for (State state : State.notReady()) {
            state.x.enumerate();
            Checks.dueEmitted(state.x, 0, 0);
            Checks.due(state.name + "greatestOpen()", state.x.greatestOpen(), state.soft);
        }
    }

    private static void startsAfresh() {
        CoreEnumerator x = Checks.halfEmittedExample();
        Checks.due("enumerate()", x.enumerate(), 5);
        Checks.dueEmitted(x, 0, 0);
        Checks.due("verdict(3) afresh", x.verdict(3), CoreEnumerator.OPEN);
        Checks.due("verdict(14) afresh", x.verdict(14), CoreEnumerator.OPEN);
        Checks.due("greatestOpen() afresh", x.greatestOpen(), 15);
        Checks.dueLists(x, Checks.masks(3, 13), Checks.masks(14, 9, 5));
    }

    private static void startsAfreshAfterAll() {
        CoreEnumerator x = Checks.example();
        for (int round = 0; round < 3; round++) {
            Checks.dueLists(x, Checks.masks(3, 13), Checks.masks(14, 9, 5));
            Checks.dueEmitted(x, 2, 3);
        }
        for (State state : State.ready()) {
            state.x.enumerate();
            Checks.dueEmitted(state.x, 0, 0);
            Checks.due(state.name + "greatestOpen()", state.x.greatestOpen(), state.soft);
        }
    }

    private static void changesNoClause() {
        for (State state : State.all()) {
            String before = Checks.clauses(state.x);
            state.x.enumerate();
            Checks.dueEqual(state.name + "the clauses", Checks.clauses(state.x), before);
            Checks.dueSlots(state.x, state.soft, state.hard);
        }
        CoreEnumerator x = Checks.example();
        x.setKind(2, CoreEnumerator.HARD);
        x.enumerate();
        Checks.dueSlots(x, 11, 4);
        Checks.dueLiterals(x, 3, -1, -2, 0);
        Checks.due("literal(4, 0)", x.literal(4, 0), CoreEnumerator.BAD_SLOT);
    }

    /** Four opposite pairs: 4 cores, 16 maximals. Then pair by pair is taken away. */
    private static void answersTheSum() {
        CoreEnumerator x = new CoreEnumerator(4, 8);
        for (int slot = 0; slot < 8; slot++) {
            int v = slot / 2 + 1;
            Checks.add(x, slot, CoreEnumerator.SOFT, slot % 2 == 0 ? v : -v, 0, 0);
        }
        Checks.dueLists(x, Checks.masks(3, 12, 48, 192), Checks.masks(
                170, 169, 166, 165, 154, 153, 150, 149, 106, 105, 102, 101, 90, 89, 86, 85));
        int[] due = {3 + 8, 2 + 4, 1 + 2, 0 + 1};
        for (int pair = 0; pair < 4; pair++) {
            x.removeClause(2 * pair);
            Checks.due("enumerate()", x.enumerate(), due[pair]);
        }
    }

    private static void unsatisfiableEmptySet() {
        CoreEnumerator x = Checks.object(2, 4, Checks.hard(1, 0, 0), Checks.hard(-1, 0, 0));
        Checks.dueLists(x, Checks.masks(0), Checks.masks());
        Checks.add(x, 2, CoreEnumerator.SOFT, 2, 0, 0);
        Checks.add(x, 3, CoreEnumerator.SOFT, 0, 0, 0);
        Checks.dueLists(x, Checks.masks(0), Checks.masks());
        Checks.dueLists(Checks.object(1, 1, Checks.hard(0, 0, 0)), Checks.masks(0), Checks.masks());
    }

    private static void satisfiableWhole() {
        CoreEnumerator x = Checks.object(3, 4,
                Checks.hard(1, 0, 0), Checks.soft(2, 0, 0), Checks.hard(-2, 3, 0), Checks.soft(3, -3, 0));
        Checks.dueLists(x, Checks.masks(), Checks.masks(10));
        x.setKind(0, CoreEnumerator.SOFT);
        Checks.dueLists(x, Checks.masks(), Checks.masks(11));
        x.setKind(2, CoreEnumerator.SOFT);
        Checks.dueLists(x, Checks.masks(), Checks.masks(15));
    }

    private static void emptyWhole() {
        CoreEnumerator x = new CoreEnumerator(3, 2);
        Checks.dueLists(x, Checks.masks(), Checks.masks(0));
        Checks.add(x, 0, CoreEnumerator.HARD, 1, 0, 0);
        Checks.dueLists(x, Checks.masks(), Checks.masks(0));
        x.removeClause(0);
        Checks.add(x, 0, CoreEnumerator.SOFT, 0, 0, 0);
        x.enumerate();
        x.removeClause(0);
        Checks.dueLists(x, Checks.masks(), Checks.masks(0));
    }
}
