/** Long runs of calls, the same ones every time, with the model's answer as the one due. */
public final class ModelRunsTest {
    private static final int RUNS = 400;
    private static final int CALLS = 300;
    private static final int MOST_FAULTS = 20;

    private static long seed = 20_261_115L;
    private static int faults = 0;

    public static void main(String[] args) {
        for (int run = 0; run < RUNS && faults < MOST_FAULTS; run++) {
            int variables = 1 + run % 5;
            int capacity = run % 3 == 0 ? 8 : 1 + below(8);
            // Runs of few hard clauses keep long lists; the others meet the empty core.
            int hardOutOfTen = run % 4;
            oneRun(run, variables, capacity, hardOutOfTen);
        }
        Checks.finish();
    }

    private static void oneRun(int run, int variables, int capacity, int hardOutOfTen) {
        CoreEnumerator x = new CoreEnumerator(variables, capacity);
        Model model = new Model(variables, capacity);
        for (int call = 0; call < CALLS && faults < MOST_FAULTS; call++) {
            String where = "run " + run + ", call " + call + ": ";
            int choice = below(100);
            if (choice < 20) {
                change(where, x, model, hardOutOfTen);
            } else if (choice < 30) {
                due(where + "enumerate()", x.enumerate(), model.enumerate());
            } else if (choice < 60) {
                emitOne(where, x, model);
            } else {
                read(where, x, model);
            }
        }
        drain("run " + run + ", at the end: ", x, model);
    }

    private static void change(String where, CoreEnumerator x, Model model, int hardOutOfTen) {
        int choice = below(10);
        if (choice < 6) {
            int kind = below(20) == 0 ? oddInt() : below(10) < hardOutOfTen ? 1 : 0;
            int a = someLiteral(model);
            int b = someLiteral(model);
            int c = someLiteral(model);
            String call = "addClause(" + kind + ", " + a + ", " + b + ", " + c + ")";
            due(where + call, x.addClause(kind, a, b, c), model.addClause(kind, a, b, c));
        } else if (choice < 8) {
            int slot = someSlot();
            due(where + "removeClause(" + slot + ")", x.removeClause(slot), model.removeClause(slot));
        } else {
            int slot = someSlot();
            int kind = below(6) == 0 ? oddInt() : below(10) < hardOutOfTen ? 1 : 0;
            due(where + "setKind(" + slot + ", " + kind + ")", x.setKind(slot, kind), model.setKind(slot, kind));
        }
    }

    private static void emitOne(String where, CoreEnumerator x, Model model) {
        int list = below(20) == 0 ? oddInt() : 2 + below(2);
        due(where + "emit(" + list + ")", x.emit(list), model.emit(list));
    }

    private static void read(String where, CoreEnumerator x, Model model) {
        int number = below(6) == 0 ? oddInt() : below(4);
        int mask = below(10) == 0 ? oddInt() : below(3) == 0 ? below(256) : below(256) & model.slots(0);
        int slot = someSlot();
        due(where + "literal(" + slot + ", " + number + ")", x.literal(slot, number), model.literal(slot, number));
        due(where + "slots(" + number + ")", x.slots(number), model.slots(number));
        due(where + "count(" + number + ")", x.count(number), model.count(number));
        due(where + "emitted(" + number + ")", x.emitted(number), model.emitted(number));
        due(where + "witness(" + mask + ")", x.witness(mask), model.witness(mask));
        due(where + "verdict(" + mask + ")", x.verdict(mask), model.verdict(mask));
        due(where + "greatestOpen()", x.greatestOpen(), model.greatestOpen());
        due(where + "variables()", x.variables(), model.variables());
        due(where + "capacity()", x.capacity(), model.capacity());
    }

    /** Both lists to their ends, with everything settled there. */
    private static void drain(String where, CoreEnumerator x, Model model) {
        int length = model.enumerate();
        due(where + "enumerate()", x.enumerate(), length);
        for (int i = 0; i <= length; i++) {
            due(where + "emit(2)", x.emit(2), model.emit(2));
            due(where + "emit(3)", x.emit(3), model.emit(3));
            due(where + "greatestOpen()", x.greatestOpen(), model.greatestOpen());
        }
        due(where + "greatestOpen() after all", x.greatestOpen(), CoreEnumerator.NONE);
        for (int mask = 0; mask < 256; mask++) {
            due(where + "verdict(" + mask + ")", x.verdict(mask), model.verdict(mask));
            due(where + "witness(" + mask + ")", x.witness(mask), model.witness(mask));
        }
    }

    private static int someLiteral(Model model) {
        if (below(30) == 0) {
            return oddInt();
        }
        int range = model.variables();
        return below(4) == 0 ? 0 : below(2 * range + 1) - range;
    }

    private static int someSlot() {
        return below(15) == 0 ? oddInt() : below(9);
    }

    private static int oddInt() {
        int[] odd = {Integer.MIN_VALUE, Integer.MAX_VALUE, -1, -2, 2, 3, 4, 5, 6, 8, 32, 33, -32, 256, 1 << 31 | 1};
        return odd[below(odd.length)];
    }

    private static void due(String call, int got, int want) {
        if (got != want) {
            faults++;
        }
        Checks.due(call, got, want);
    }

    /** A plain congruential sequence: the runs must be the same each time. */
    private static int below(int bound) {
        seed = seed * 6364136223846793005L + 1442695040888963407L;
        return (int) ((seed >>> 33) % bound);
    }
}
