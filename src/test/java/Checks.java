import java.util.function.IntSupplier;

/** Counts the answers that are not as due, and ends a test with the right exit code. */
final class Checks {
    static final int[] FAR_INTS = {
        Integer.MIN_VALUE, Integer.MIN_VALUE + 1, -256, -32, -1, 256, 1 << 16, 1 << 30, Integer.MAX_VALUE
    };

    private static int wrong = 0;

    private Checks() {
    }

    static void due(String call, long got, long want) {
        if (got != want) {
            report(call + " answered " + got + ", due is " + want);
        }
    }

    static void report(String fault) {
        wrong++;
        System.out.println(fault);
    }

    /** For refusals and for calls that only read: the answer is due and nothing observable changes. */
    static void dueUnchanged(CoreEnumerator x, String call, IntSupplier made, int want) {
        String before = observe(x);
        due(call, made.getAsInt(), want);
        String after = observe(x);
        if (!before.equals(after)) {
            report(call + " changed the object from " + before + " to " + after);
        }
    }

    /** Everything that can be read from the object without emitting. */
    static String observe(CoreEnumerator x) {
        StringBuilder seen = new StringBuilder();
        seen.append("V").append(x.variables()).append(" C").append(x.capacity());
        seen.append(" F").append(x.slots(CoreEnumerator.SOFT)).append(" H").append(x.slots(CoreEnumerator.HARD));
        for (int slot = 0; slot < 8; slot++) {
            for (int position = 0; position < 3; position++) {
                seen.append(position == 0 ? " [" : ",").append(x.literal(slot, position));
            }
            seen.append("]");
        }
        for (int list = CoreEnumerator.CORE; list <= CoreEnumerator.MAXIMAL; list++) {
            seen.append(" n").append(x.count(list)).append(" e").append(x.emitted(list));
        }
        seen.append(" g").append(x.greatestOpen()).append(" v");
        for (int mask = 0; mask < 256; mask++) {
            seen.append(x.verdict(mask)).append(",");
        }
        return seen.toString();
    }

    static void add(CoreEnumerator x, int wantSlot, int kind, int a, int b, int c) {
        due("addClause(" + kind + ", " + a + ", " + b + ", " + c + ")", x.addClause(kind, a, b, c), wantSlot);
    }

    static void dueEmissions(CoreEnumerator x, int list, int... masks) {
        for (int mask : masks) {
            due("emit(" + list + ")", x.emit(list), mask);
        }
        due("emit(" + list + ") past the end", x.emit(list), CoreEnumerator.NONE);
    }

    /** x1, not x1, x2, (not x1 or not x2), all soft: cores 3, 13 and maximals 14, 9, 5. */
    static CoreEnumerator example() {
        CoreEnumerator x = new CoreEnumerator(3, 6);
        add(x, 0, CoreEnumerator.SOFT, 1, 0, 0);
        add(x, 1, CoreEnumerator.SOFT, -1, 0, 0);
        add(x, 2, CoreEnumerator.SOFT, 2, 0, 0);
        add(x, 3, CoreEnumerator.SOFT, -1, -2, 0);
        return x;
    }

    /** The example, ready, with one mask of each list emitted. */
    static CoreEnumerator halfEmittedExample() {
        CoreEnumerator x = example();
        due("enumerate()", x.enumerate(), 5);
        due("emit(CORE)", x.emit(CoreEnumerator.CORE), 3);
        due("emit(MAXIMAL)", x.emit(CoreEnumerator.MAXIMAL), 14);
        return x;
    }

    static void dueNotReady(CoreEnumerator x, String when) {
        due("count(CORE) " + when, x.count(CoreEnumerator.CORE), CoreEnumerator.NOT_READY);
        due("count(MAXIMAL) " + when, x.count(CoreEnumerator.MAXIMAL), CoreEnumerator.NOT_READY);
        due("emitted(CORE) " + when, x.emitted(CoreEnumerator.CORE), CoreEnumerator.NOT_READY);
        due("emitted(MAXIMAL) " + when, x.emitted(CoreEnumerator.MAXIMAL), CoreEnumerator.NOT_READY);
        due("emit(CORE) " + when, x.emit(CoreEnumerator.CORE), CoreEnumerator.NOT_READY);
        due("emit(MAXIMAL) " + when, x.emit(CoreEnumerator.MAXIMAL), CoreEnumerator.NOT_READY);
        due("verdict(0) " + when, x.verdict(0), CoreEnumerator.NOT_READY);
        due("greatestOpen() " + when, x.greatestOpen(), CoreEnumerator.NOT_READY);
    }

    static void finish() {
        System.out.println(wrong == 0 ? "all answers are as due" : wrong + " answers are not as due");
        if (wrong != 0) {
            System.exit(1);
        }
    }
}
