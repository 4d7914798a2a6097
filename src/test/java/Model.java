import java.util.ArrayList;
import java.util.Collections;
import java.util.List;

/** The document's definitions, word by word and slowly: the answers to compare with. */
final class Model {
    private static final class Clause {
        final int[] literals;
        int kind;

        Clause(int kind, int... literals) {
            this.kind = kind;
            this.literals = literals;
        }

        boolean isTrue(int assignment) {
            for (int literal : literals) {
                boolean value = literal != 0 && (assignment / (1 << (Math.abs(literal) - 1))) % 2 == 1;
                if (literal > 0 && value || literal < 0 && !value) {
                    return true;
                }
            }
            return false;
        }
    }

    private final int variables;
    private final Clause[] slots;
    private List<Integer> cores = null;
    private List<Integer> maximals = null;
    private final List<Integer> emittedCores = new ArrayList<>();
    private final List<Integer> emittedMaximals = new ArrayList<>();

    Model(int variables, int capacity) {
        this.variables = Math.max(1, Math.min(5, variables));
        this.slots = new Clause[Math.max(1, Math.min(8, capacity))];
    }

    int variables() {
        return variables;
    }

    int capacity() {
        return slots.length;
    }

    int addClause(int kind, int a, int b, int c) {
        if (kind != 0 && kind != 1) {
            return CoreEnumerator.BAD_KIND;
        }
        for (long literal : new long[] {a, b, c}) {
            if (Math.abs(literal) > variables) {
                return CoreEnumerator.BAD_LITERAL;
            }
        }
        for (int slot = 0; slot < slots.length; slot++) {
            if (slots[slot] == null) {
                slots[slot] = new Clause(kind, a, b, c);
                forget();
                return slot;
            }
        }
        return CoreEnumerator.FULL;
    }

    int removeClause(int slot) {
        if (isBadSlot(slot)) {
            return CoreEnumerator.BAD_SLOT;
        }
        slots[slot] = null;
        forget();
        return CoreEnumerator.DONE;
    }

    int setKind(int slot, int kind) {
        if (isBadSlot(slot)) {
            return CoreEnumerator.BAD_SLOT;
        }
        if (kind != 0 && kind != 1) {
            return CoreEnumerator.BAD_KIND;
        }
        if (slots[slot].kind == kind) {
            return CoreEnumerator.SAME;
        }
        slots[slot].kind = kind;
        forget();
        return CoreEnumerator.DONE;
    }

    int literal(int slot, int position) {
        if (isBadSlot(slot)) {
            return CoreEnumerator.BAD_SLOT;
        }
        if (position < 0 || position > 2) {
            return CoreEnumerator.BAD_POSITION;
        }
        return slots[slot].literals[position];
    }

    int slots(int kind) {
        if (kind != 0 && kind != 1) {
            return CoreEnumerator.BAD_KIND;
        }
        int sum = 0;
        for (int slot = 0; slot < slots.length; slot++) {
            if (slots[slot] != null && slots[slot].kind == kind) {
                sum += 1 << slot;
            }
        }
        return sum;
    }

    int witness(int mask) {
        if (!subsets().contains(mask)) {
            return CoreEnumerator.BAD_MASK;
        }
        for (int assignment = 0; assignment < 1 << variables; assignment++) {
            if (satisfies(assignment, mask)) {
                return assignment;
            }
        }
        return CoreEnumerator.NONE;
    }

    int enumerate() {
        forget();
        List<Integer> satisfiable = new ArrayList<>();
        List<Integer> unsatisfiable = new ArrayList<>();
        for (int mask : subsets()) {
            (witness(mask) >= 0 ? satisfiable : unsatisfiable).add(mask);
        }
        cores = new ArrayList<>();
        maximals = new ArrayList<>();
        for (int mask : unsatisfiable) {
            if (unsatisfiable.stream().noneMatch(other -> other != mask && within(other, mask))) {
                cores.add(mask);
            }
        }
        for (int mask : satisfiable) {
            if (satisfiable.stream().noneMatch(other -> other != mask && within(mask, other))) {
                maximals.add(mask);
            }
        }
        Collections.sort(cores);
        Collections.sort(maximals, Collections.reverseOrder());
        return cores.size() + maximals.size();
    }

    int count(int list) {
        return refusesList(list) ? refusal(list) : listOf(list).size();
    }

    int emit(int list) {
        if (refusesList(list)) {
            return refusal(list);
        }
        List<Integer> emitted = emittedOf(list);
        if (emitted.size() == listOf(list).size()) {
            return CoreEnumerator.NONE;
        }
        int mask = listOf(list).get(emitted.size());
        emitted.add(mask);
        return mask;
    }

    int emitted(int list) {
        return refusesList(list) ? refusal(list) : emittedOf(list).size();
    }

    int verdict(int mask) {
        if (cores == null) {
            return CoreEnumerator.NOT_READY;
        }
        if (!subsets().contains(mask)) {
            return CoreEnumerator.BAD_MASK;
        }
        if (emittedMaximals.stream().anyMatch(maximal -> within(mask, maximal))) {
            return CoreEnumerator.KNOWN_SAT;
        }
        if (emittedCores.stream().anyMatch(core -> within(core, mask))) {
            return CoreEnumerator.KNOWN_UNSAT;
        }
        return CoreEnumerator.OPEN;
    }

    int greatestOpen() {
        if (cores == null) {
            return CoreEnumerator.NOT_READY;
        }
        int greatest = CoreEnumerator.NONE;
        for (int mask : subsets()) {
            if (verdict(mask) == CoreEnumerator.OPEN) {
                greatest = Math.max(greatest, mask);
            }
        }
        return greatest;
    }

    private void forget() {
        cores = null;
        maximals = null;
        emittedCores.clear();
        emittedMaximals.clear();
    }

    private boolean isBadSlot(int slot) {
        return slot < 0 || slot > slots.length - 1 || slots[slot] == null;
    }

    private boolean refusesList(int list) {
        return list != 2 && list != 3 || cores == null;
    }

    private int refusal(int list) {
        return list != 2 && list != 3 ? CoreEnumerator.BAD_KIND : CoreEnumerator.NOT_READY;
    }

    private List<Integer> listOf(int list) {
        return list == 2 ? cores : maximals;
    }

    private List<Integer> emittedOf(int list) {
        return list == 2 ? emittedCores : emittedMaximals;
    }

    /** All sums of bits of soft slots. */
    private List<Integer> subsets() {
        List<Integer> all = new ArrayList<>();
        all.add(0);
        for (int slot = 0; slot < slots.length; slot++) {
            if (slots[slot] != null && slots[slot].kind == 0) {
                int before = all.size();
                for (int i = 0; i < before; i++) {
                    all.add(all.get(i) + (1 << slot));
                }
            }
        }
        return all;
    }

    private boolean satisfies(int assignment, int mask) {
        for (int slot = 0; slot < slots.length; slot++) {
            boolean asked = slots[slot] != null && (slots[slot].kind == 1 || (mask >> slot) % 2 == 1);
            if (asked && !slots[slot].isTrue(assignment)) {
                return false;
            }
        }
        return true;
    }

    private static boolean within(int inner, int outer) {
        return (inner | outer) == outer;
    }
}
