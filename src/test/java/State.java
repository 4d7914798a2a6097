import java.util.ArrayList;
import java.util.List;
import java.util.function.BiPredicate;
import java.util.function.Consumer;

/** An object in a known state, with what the document's terms say of its slots and masks. */
final class State {
    /** A test of one argument on one object. */
    interface Probe {
        void test(State state, int value);
    }

    private static final int[] EMPTIED = {};

    final String name;
    final int variables;
    final int capacity;
    final boolean ready;
    final CoreEnumerator x;
    int soft = 0;
    int hard = 0;

    /** The phases 0 and 1 are not ready, the phases 2, 3 and 4 are ready. */
    private State(String what, int phase, int variables, int capacity, int[]... clauses) {
        String[] phases = {"never enumerated", "not ready again", "just enumerated", "one emitted", "all emitted"};
        this.name = what + ", " + phases[phase] + ": ";
        this.variables = variables;
        this.capacity = capacity;
        this.ready = phase >= 2;
        this.x = new CoreEnumerator(variables, capacity);
        fill(clauses);
        if (phase == 1) {
            x.enumerate();
            emit(1);
            changeAndChangeBack();
        }
        if (phase >= 2) {
            x.enumerate();
            emit(phase == 2 ? 0 : phase == 3 ? 1 : 256);
        }
    }

    /** Every object is new, and every call makes the same ones in the same order. */
    static List<State> all() {
        List<State> states = new ArrayList<>();
        for (int phase = 0; phase < 5; phase++) {
            states.add(new State("no clauses", phase, 2, 3));
            states.add(new State("one slot", phase, 1, 1, Checks.soft(-1, 0, -1)));
            states.add(new State("four soft", phase, 3, 6,
                    Checks.soft(1, 0, 0), Checks.soft(-1, 0, 0), Checks.soft(2, 0, 0), Checks.soft(-1, -2, 0)));
            states.add(new State("with a gap", phase, 3, 7,
                    Checks.soft(-1, 0, 0), Checks.hard(1, 2, 0), EMPTIED, Checks.soft(0, -2, 0),
                    Checks.soft(0, 0, 3)));
            states.add(new State("unsatisfiable", phase, 2, 5,
                    Checks.hard(0, 0, 0), Checks.soft(1, 0, 0), Checks.soft(2, 0, 0)));
            states.add(new State("only hard", phase, 4, 4, Checks.hard(4, 4, -1), EMPTIED, Checks.hard(1, -1, 0)));
            states.add(new State("full", phase, 5, 8,
                    Checks.soft(1, 2, 3), Checks.soft(-1, 0, 0), Checks.hard(-2, 0, -3), Checks.soft(0, -2, 0),
                    Checks.soft(-3, 0, 0), Checks.hard(5, 4, 0), Checks.soft(-5, 0, 0), Checks.soft(0, 0, -4)));
        }
        return states;
    }

    static List<State> ready() {
        List<State> states = all();
        states.removeIf(state -> !state.ready);
        return states;
    }

    static List<State> notReady() {
        List<State> states = all();
        states.removeIf(state -> state.ready);
        return states;
    }

    /**
     * Makes the calls on one of two equal objects: whatever is asked later, both must answer alike.
     * This also finds a change that the reading calls in Checks.observe would make themselves.
     */
    static void dueNoTrace(Consumer<State> calls) {
        List<State> states = all();
        List<State> twins = all();
        for (int i = 0; i < states.size(); i++) {
            State state = states.get(i);
            calls.accept(state);
            Checks.dueEqual(state.name + "what comes after", future(state.x), future(twins.get(i).x));
        }
    }

    /** The emissions come first, for they alone tell the emission numbers without another call. */
    private static String future(CoreEnumerator x) {
        StringBuilder seen = new StringBuilder();
        appendEmissions(seen, x);
        seen.append(Checks.observe(x));
        for (int mask = 0; mask < 256; mask++) {
            seen.append(" w").append(x.witness(mask));
        }
        seen.append(" enumerate ").append(x.enumerate());
        appendEmissions(seen, x);
        return seen.append(Checks.observe(x)).toString();
    }

    private static void appendEmissions(StringBuilder seen, CoreEnumerator x) {
        for (int i = 0; i < 40; i++) {
            seen.append(" c").append(x.emit(CoreEnumerator.CORE));
            seen.append(" m").append(x.emit(CoreEnumerator.MAXIMAL));
        }
    }

    static void eachOccupiedSlot(Probe probe) {
        for (State state : all()) {
            for (int slot = 0; slot < state.capacity; slot++) {
                if (state.isOccupied(slot)) {
                    probe.test(state, slot);
                }
            }
        }
    }

    static void eachEmptySlot(Probe probe) {
        for (State state : all()) {
            for (int slot = 0; slot < state.capacity; slot++) {
                if (!state.isOccupied(slot)) {
                    probe.test(state, slot);
                }
            }
        }
    }

    static void eachSlotBelow(Probe probe) {
        eachProbe((state, value) -> value < 0, probe);
    }

    static void eachSlotAbove(Probe probe) {
        for (State state : all()) {
            probe.test(state, state.capacity);
        }
        eachProbe((state, value) -> value > state.capacity - 1, probe);
    }

    static void eachBadSlot(Probe probe) {
        eachProbe((state, value) -> !state.isOccupied(value), probe);
    }

    static void eachBadKind(Probe probe) {
        eachProbe((state, value) -> value != CoreEnumerator.SOFT && value != CoreEnumerator.HARD, probe);
    }

    static void eachBadList(Probe probe) {
        eachProbe((state, value) -> value != CoreEnumerator.CORE && value != CoreEnumerator.MAXIMAL, probe);
    }

    static void eachSubset(Probe probe) {
        for (State state : all()) {
            for (int mask = 0; mask <= state.soft; mask++) {
                if (state.isSubset(mask)) {
                    probe.test(state, mask);
                }
            }
        }
    }

    static void eachNegativeMask(Probe probe) {
        for (State state : all()) {
            for (int value : Checks.PROBES) {
                probe.test(state, Integer.MIN_VALUE | value);
            }
            probe.test(state, Integer.MIN_VALUE | state.soft);
            probe.test(state, -1);
        }
    }

    static void eachMaskWithAnEmptySlot(Probe probe) {
        eachEmptySlot((state, slot) -> probeBit(state, slot, probe));
    }

    static void eachMaskWithAHardSlot(Probe probe) {
        eachOccupiedSlot((state, slot) -> {
            if ((state.hard >> slot & 1) == 1) {
                probeBit(state, slot, probe);
            }
        });
    }

    static void eachMaskWithNoSuchSlot(Probe probe) {
        for (State state : all()) {
            for (int bit = state.capacity; bit < 31; bit++) {
                probeBit(state, bit, probe);
            }
            probe.test(state, Integer.MAX_VALUE);
        }
    }

    static void eachBadMask(Probe probe) {
        eachProbe((state, value) -> !state.isSubset(value), probe);
    }

    private static void probeBit(State state, int bit, Probe probe) {
        probe.test(state, 1 << bit);
        probe.test(state, 1 << bit | state.soft);
    }

    private static void eachProbe(BiPredicate<State, Integer> isWanted, Probe probe) {
        for (State state : all()) {
            for (int value : Checks.PROBES) {
                if (isWanted.test(state, value)) {
                    probe.test(state, value);
                }
            }
        }
    }

    boolean isOccupied(int slot) {
        return slot >= 0 && slot < capacity && ((soft | hard) >> slot & 1) == 1;
    }

    boolean isFull() {
        return (soft | hard) == (1 << capacity) - 1;
    }

    boolean isSubset(int mask) {
        return mask >= 0 && (mask | soft) == soft;
    }

    private void fill(int[]... clauses) {
        for (int slot = 0; slot < clauses.length; slot++) {
            boolean emptied = clauses[slot] == EMPTIED;
            int[] clause = emptied ? Checks.hard(0, 0, 0) : clauses[slot];
            x.addClause(clause[0], clause[1], clause[2], clause[3]);
            soft |= emptied || clause[0] == CoreEnumerator.HARD ? 0 : 1 << slot;
            hard |= emptied || clause[0] == CoreEnumerator.SOFT ? 0 : 1 << slot;
        }
        // Only now, or the next clause would fill the gap.
        for (int slot = 0; slot < clauses.length; slot++) {
            if (clauses[slot] == EMPTIED) {
                x.removeClause(slot);
            }
        }
    }

    private void changeAndChangeBack() {
        if (isFull()) {
            int kind = hard & 1;
            x.setKind(0, 1 - kind);
            x.setKind(0, kind);
        } else {
            int slot = x.addClause(CoreEnumerator.SOFT, 1, 0, 0);
            x.removeClause(slot);
        }
    }

    private void emit(int times) {
        for (int i = 0; i < times; i++) {
            x.emit(CoreEnumerator.CORE);
            x.emit(CoreEnumerator.MAXIMAL);
        }
    }
}
