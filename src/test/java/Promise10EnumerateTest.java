/** Promise 10: enumerating. */
public final class Promise10EnumerateTest {
    public static void main(String[] args) {
        listsTheExample();
        unsatisfiableEmptySet();
        satisfiableWhole();
        gapsBetweenSoftSlots();
        longLists();
        startsAfresh();
        changesNoClause();
        Checks.finish();
    }

    private static void listsTheExample() {
        dueLists(Checks.example(), new int[] {3, 13}, new int[] {14, 9, 5});
    }

    private static void unsatisfiableEmptySet() {
        CoreEnumerator x = new CoreEnumerator(2, 4);
        Checks.add(x, 0, CoreEnumerator.HARD, 1, 0, 0);
        Checks.add(x, 1, CoreEnumerator.HARD, -1, 0, 0);
        dueLists(x, new int[] {0}, new int[] {});
        Checks.add(x, 2, CoreEnumerator.SOFT, 2, 0, 0);
        Checks.add(x, 3, CoreEnumerator.SOFT, 0, 0, 0);
        dueLists(x, new int[] {0}, new int[] {});
    }

    private static void satisfiableWhole() {
        CoreEnumerator x = new CoreEnumerator(3, 4);
        dueLists(x, new int[] {}, new int[] {0});
        Checks.add(x, 0, CoreEnumerator.HARD, 1, 0, 0);
        dueLists(x, new int[] {}, new int[] {0});
        Checks.add(x, 1, CoreEnumerator.SOFT, 2, 0, 0);
        Checks.add(x, 2, CoreEnumerator.HARD, -2, 3, 0);
        Checks.add(x, 3, CoreEnumerator.SOFT, 3, -3, 0);
        dueLists(x, new int[] {}, new int[] {10});
        x.setKind(0, CoreEnumerator.SOFT);
        dueLists(x, new int[] {}, new int[] {11});
        x.setKind(2, CoreEnumerator.SOFT);
        dueLists(x, new int[] {}, new int[] {15});
    }

    private static void gapsBetweenSoftSlots() {
        CoreEnumerator x = new CoreEnumerator(2, 8);
        for (int slot = 0; slot < 8; slot++) {
            Checks.add(x, slot, CoreEnumerator.SOFT, slot % 4 == 3 ? -1 : 1, 0, 0);
        }
        for (int slot : new int[] {0, 2, 4, 5}) {
            x.removeClause(slot);
        }
        x.setKind(6, CoreEnumerator.HARD);
        dueLists(x, new int[] {8, 128}, new int[] {2});
        x.setKind(6, CoreEnumerator.SOFT);
        dueLists(x, new int[] {10, 72, 130, 192}, new int[] {136, 66});
        Checks.add(x, 0, CoreEnumerator.SOFT, 0, 0, 0);
        dueLists(x, new int[] {1, 10, 72, 130, 192}, new int[] {136, 66});
    }

    /** Four opposite pairs: 4 cores, 16 maximals. Eight empty clauses: 8 cores. */
    private static void longLists() {
        CoreEnumerator pairs = new CoreEnumerator(4, 8);
        for (int slot = 0; slot < 8; slot++) {
            int v = slot / 2 + 1;
            Checks.add(pairs, slot, CoreEnumerator.SOFT, slot % 2 == 0 ? v : -v, 0, 0);
        }
        dueLists(pairs, new int[] {3, 12, 48, 192},
                new int[] {170, 169, 166, 165, 154, 153, 150, 149, 106, 105, 102, 101, 90, 89, 86, 85});
        CoreEnumerator empties = new CoreEnumerator(1, 8);
        for (int slot = 0; slot < 8; slot++) {
            Checks.add(empties, slot, CoreEnumerator.SOFT, 0, 0, 0);
        }
        dueLists(empties, new int[] {1, 2, 4, 8, 16, 32, 64, 128}, new int[] {0});
    }

    private static void startsAfresh() {
        CoreEnumerator x = Checks.halfEmittedExample();
        dueLists(x, new int[] {3, 13}, new int[] {14, 9, 5});
        dueLists(x, new int[] {3, 13}, new int[] {14, 9, 5});
        x.enumerate();
        Checks.due("emitted(CORE) afresh", x.emitted(CoreEnumerator.CORE), 0);
        Checks.due("emitted(MAXIMAL) afresh", x.emitted(CoreEnumerator.MAXIMAL), 0);
        Checks.due("verdict(3) afresh", x.verdict(3), CoreEnumerator.OPEN);
        Checks.due("greatestOpen() afresh", x.greatestOpen(), 15);
        x.removeClause(0);
        dueLists(x, new int[] {}, new int[] {14});
    }

    private static void changesNoClause() {
        CoreEnumerator x = Checks.example();
        x.setKind(2, CoreEnumerator.HARD);
        x.enumerate();
        Checks.due("slots(SOFT)", x.slots(CoreEnumerator.SOFT), 11);
        Checks.due("slots(HARD)", x.slots(CoreEnumerator.HARD), 4);
        Checks.due("literal(3, 0)", x.literal(3, 0), -1);
        Checks.due("literal(3, 1)", x.literal(3, 1), -2);
        Checks.due("literal(4, 0)", x.literal(4, 0), CoreEnumerator.BAD_SLOT);
    }

    private static void dueLists(CoreEnumerator x, int[] cores, int[] maximals) {
        Checks.due("enumerate()", x.enumerate(), cores.length + maximals.length);
        Checks.due("count(CORE)", x.count(CoreEnumerator.CORE), cores.length);
        Checks.due("count(MAXIMAL)", x.count(CoreEnumerator.MAXIMAL), maximals.length);
        Checks.dueEmissions(x, CoreEnumerator.CORE, cores);
        Checks.dueEmissions(x, CoreEnumerator.MAXIMAL, maximals);
    }
}
