import java.util.function.IntSupplier;

/** Counts the answers that are not as due, and ends a test with the right exit code. */
final class Checks {
    /**
     * The least and the greatest ints, the neighbours of every bound of the document, and ints that
     * wrap around to a small one when shifted by, multiplied by 3 or cut to fewer bits.
     */
    static final int[] PROBES = {
        Integer.MIN_VALUE, Integer.MIN_VALUE + 1, Integer.MIN_VALUE + 2, -1431655765, -65536, -257, -256, -255,
        -64, -33, -32, -31, -24, -19, -18, -17, -16, -15, -14, -13, -12, -11, -10, -9, -8, -7, -6, -5, -4, -3, -2, -1,
        0, 1, 2, 3, 4, 5, 6, 7, 8, 9, 10, 15, 16, 23, 24, 25, 31, 32, 33, 34, 35, 63, 64, 65, 127, 128, 255, 256, 257,
        258, 259, 65536, 65537, 1 << 30, 1431655766, Integer.MAX_VALUE - 1, Integer.MAX_VALUE
    };

    static final int[] NO_LISTS = {
        Integer.MIN_VALUE, -1, CoreEnumerator.SOFT, CoreEnumerator.HARD, 4, Integer.MAX_VALUE
    };

    private static int wrong = 0;
    private static int checked = 0;
    private static String sentence = "";

    private Checks() {
    }

    /** Runs the tests of one sentence of the document, which is named with each fault. */
    static void sentence(String quoted, Runnable... tests) {
        sentence = "'" + quoted + "': ";
        for (Runnable test : tests) {
            int before = checked;
            try {
                test.run();
            } catch (RuntimeException thrown) {
                report("a call threw " + thrown);
            }
            if (checked == before) {
                report("a test of this sentence checks nothing");
            }
        }
        sentence = "";
    }

    static void due(String call, long got, long want) {
        checked++;
        if (got != want) {
            report(call + " answered " + got + ", due is " + want);
        }
    }

    static void dueEqual(String what, Object got, Object want) {
        checked++;
        if (!got.equals(want)) {
            report(what + ": got " + got + ", due is " + want);
        }
    }

    static void report(String fault) {
        wrong++;
        System.out.println(sentence + fault);
    }

    /** For refusals and for calls that only read: the answer is due and nothing observable changes. */
    static void dueUnchanged(CoreEnumerator x, String call, IntSupplier made, int want) {
        String before = observe(x);
        due(call, made.getAsInt(), want);
        dueEqual("the object after " + call, observe(x), before);
    }

    /** Everything that can be read from the object without emitting, but for the witnesses. */
    static String observe(CoreEnumerator x) {
        StringBuilder seen = new StringBuilder();
        seen.append("V").append(x.variables()).append(" C").append(x.capacity()).append(" ").append(clauses(x));
        for (int list = CoreEnumerator.CORE; list <= CoreEnumerator.MAXIMAL; list++) {
            seen.append(" n").append(x.count(list)).append(" e").append(x.emitted(list));
        }
        seen.append(" g").append(x.greatestOpen()).append(" v");
        for (int mask = 0; mask < 256; mask++) {
            seen.append(x.verdict(mask)).append(",");
        }
        return seen.toString();
    }

    /** The slots with their kinds and literals. */
    static String clauses(CoreEnumerator x) {
        StringBuilder seen = new StringBuilder();
        seen.append("F").append(x.slots(CoreEnumerator.SOFT)).append(" H").append(x.slots(CoreEnumerator.HARD));
        for (int slot = 0; slot < 8; slot++) {
            for (int position = 0; position < 3; position++) {
                seen.append(position == 0 ? " [" : ",").append(x.literal(slot, position));
            }
            seen.append("]");
        }
        return seen.toString();
    }

    static void add(CoreEnumerator x, int wantSlot, int kind, int a, int b, int c) {
        due("addClause(" + kind + ", " + a + ", " + b + ", " + c + ")", x.addClause(kind, a, b, c), wantSlot);
    }

    static int[] soft(int a, int b, int c) {
        return new int[] {CoreEnumerator.SOFT, a, b, c};
    }

    static int[] hard(int a, int b, int c) {
        return new int[] {CoreEnumerator.HARD, a, b, c};
    }

    /** A new object with these clauses in the slots 0, 1, 2 and so on. */
    static CoreEnumerator object(int variables, int capacity, int[]... clauses) {
        CoreEnumerator x = new CoreEnumerator(variables, capacity);
        for (int slot = 0; slot < clauses.length; slot++) {
            add(x, slot, clauses[slot][0], clauses[slot][1], clauses[slot][2], clauses[slot][3]);
        }
        return x;
    }

    /** A new object with hard clauses that only this assignment makes true, in its lowest slots. */
    static CoreEnumerator forced(int variables, int capacity, int assignment) {
        CoreEnumerator x = new CoreEnumerator(variables, capacity);
        for (int v = 1; v <= variables; v++) {
            boolean value = (assignment >> (v - 1) & 1) == 1;
            add(x, v - 1, CoreEnumerator.HARD, value ? v : -v, 0, 0);
        }
        return x;
    }

    /** Slot s is false under assignment s alone, so only all eight slots together are a core. */
    static CoreEnumerator eightExclusions() {
        CoreEnumerator x = new CoreEnumerator(3, 8);
        for (int slot = 0; slot < 8; slot++) {
            int a = (slot & 1) == 0 ? 1 : -1;
            int b = (slot & 2) == 0 ? 2 : -2;
            int c = (slot & 4) == 0 ? 3 : -3;
            add(x, slot, CoreEnumerator.SOFT, a, b, c);
        }
        return x;
    }

    static void dueLiterals(CoreEnumerator x, int slot, int a, int b, int c) {
        due("literal(" + slot + ", 0)", x.literal(slot, 0), a);
        due("literal(" + slot + ", 1)", x.literal(slot, 1), b);
        due("literal(" + slot + ", 2)", x.literal(slot, 2), c);
    }

    static void dueSlots(CoreEnumerator x, int soft, int hard) {
        due("slots(SOFT)", x.slots(CoreEnumerator.SOFT), soft);
        due("slots(HARD)", x.slots(CoreEnumerator.HARD), hard);
    }

    static int[] masks(int... masks) {
        return masks;
    }

    /** Enumerates, and emits both lists to their ends. */
    static void dueLists(CoreEnumerator x, int[] cores, int[] maximals) {
        due("enumerate()", x.enumerate(), cores.length + maximals.length);
        due("count(CORE)", x.count(CoreEnumerator.CORE), cores.length);
        due("count(MAXIMAL)", x.count(CoreEnumerator.MAXIMAL), maximals.length);
        dueEmissions(x, CoreEnumerator.CORE, cores);
        dueEmissions(x, CoreEnumerator.MAXIMAL, maximals);
    }

    static void dueEmissions(CoreEnumerator x, int list, int... masks) {
        for (int mask : masks) {
            due("emit(" + list + ")", x.emit(list), mask);
        }
        due("emit(" + list + ") past the end", x.emit(list), CoreEnumerator.NONE);
    }

    /** x1, not x1, x2, (not x1 or not x2), all soft: cores 3, 13 and maximals 14, 9, 5. */
    static CoreEnumerator example() {
        return object(3, 6, soft(1, 0, 0), soft(-1, 0, 0), soft(2, 0, 0), soft(-1, -2, 0));
    }

    /** The example, ready, with one mask of each list emitted. */
    static CoreEnumerator halfEmittedExample() {
        CoreEnumerator x = example();
        due("enumerate()", x.enumerate(), 5);
        due("emit(CORE)", x.emit(CoreEnumerator.CORE), 3);
        due("emit(MAXIMAL)", x.emit(CoreEnumerator.MAXIMAL), 14);
        return x;
    }

    static void dueNotReady(CoreEnumerator x, String when) {
        due("count(CORE) " + when, x.count(CoreEnumerator.CORE), CoreEnumerator.NOT_READY);
        due("count(MAXIMAL) " + when, x.count(CoreEnumerator.MAXIMAL), CoreEnumerator.NOT_READY);
        due("emitted(CORE) " + when, x.emitted(CoreEnumerator.CORE), CoreEnumerator.NOT_READY);
        due("emitted(MAXIMAL) " + when, x.emitted(CoreEnumerator.MAXIMAL), CoreEnumerator.NOT_READY);
        due("emit(CORE) " + when, x.emit(CoreEnumerator.CORE), CoreEnumerator.NOT_READY);
        due("emit(MAXIMAL) " + when, x.emit(CoreEnumerator.MAXIMAL), CoreEnumerator.NOT_READY);
        due("verdict(0) " + when, x.verdict(0), CoreEnumerator.NOT_READY);
        due("greatestOpen() " + when, x.greatestOpen(), CoreEnumerator.NOT_READY);
    }

    static void dueEmitted(CoreEnumerator x, int cores, int maximals) {
        due("emitted(CORE)", x.emitted(CoreEnumerator.CORE), cores);
        due("emitted(MAXIMAL)", x.emitted(CoreEnumerator.MAXIMAL), maximals);
    }

    static void finish() {
        System.out.println(wrong + " of " + checked + " checks failed");
        if (wrong != 0) {
            System.exit(1);
        }
    }
}
