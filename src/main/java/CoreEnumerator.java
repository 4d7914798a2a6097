/**
 * Lists the minimal unsatisfiable subsets (cores) and the maximal satisfiable
 * subsets (maximals) of a few soft clauses, the hard clauses always in force.
 */
public final class CoreEnumerator {
    public static final int SOFT = 0;
    public static final int HARD = 1;

    public static final int CORE = 2;
    public static final int MAXIMAL = 3;

    public static final int DONE = 0;

    public static final int OPEN = 0;
    public static final int KNOWN_SAT = 1;
    public static final int KNOWN_UNSAT = 2;

    public static final int FULL = -11;
    public static final int BAD_KIND = -12;
    public static final int BAD_LITERAL = -13;
    public static final int BAD_SLOT = -14;
    public static final int BAD_POSITION = -15;
    public static final int SAME = -16;
    public static final int NOT_READY = -17;
    public static final int BAD_MASK = -18;
    public static final int NONE = -19;

    private static final int MOST_VARIABLES = 5;
    private static final int MOST_SLOTS = 8;
    private static final int POSITIONS = 3;
    private static final int MOST_LITERALS = 24;
    private static final int MOST_SUBSETS = 256;

    private final int variableCount;
    private final int slotCount;

    // Each slot owns POSITIONS neighbouring places. The places of an empty slot
    // keep old literals, so they are read only for slots in one of the two masks.
    private final int[] literals = new int[MOST_LITERALS];
    private int softSlots = 0;
    private int hardSlots = 0;

    // A list holds each subset at most once, so it can't outgrow MOST_SUBSETS.
    private final int[] cores = new int[MOST_SUBSETS];
    private final int[] maximals = new int[MOST_SUBSETS];
    private int coreCount = 0;
    private int maximalCount = 0;
    private int coresEmitted = 0;
    private int maximalsEmitted = 0;
    private boolean ready = false;

    // Indexed by mask; it is up to date only while enumerate runs.
    private final boolean[] satisfiable = new boolean[MOST_SUBSETS];

    public CoreEnumerator(int variables, int capacity) {
        variableCount = clamp(variables, MOST_VARIABLES);
        slotCount = clamp(capacity, MOST_SLOTS);
    }

    public int variables() {
        return variableCount;
    }

    public int capacity() {
        return slotCount;
    }

    public int addClause(int kind, int a, int b, int c) {
        if (!isClauseKind(kind)) {
            return BAD_KIND;
        }
        if (!isLiteralOrAbsent(a) || !isLiteralOrAbsent(b) || !isLiteralOrAbsent(c)) {
            return BAD_LITERAL;
        }
        int slot = lowestEmptySlot();
        if (slot >= slotCount) {
            return FULL;
        }
        int start = slot * POSITIONS;
        literals[start] = a;
        literals[start + 1] = b;
        literals[start + 2] = c;
        markKind(slot, kind);
        ready = false;
        return slot;
    }

    public int removeClause(int slot) {
        if (!isOccupied(slot)) {
            return BAD_SLOT;
        }
        markEmpty(slot);
        ready = false;
        return DONE;
    }

    public int setKind(int slot, int kind) {
        if (!isOccupied(slot)) {
            return BAD_SLOT;
        }
        if (!isClauseKind(kind)) {
            return BAD_KIND;
        }
        int sameKind = slotsOf(kind);
        if (contains(sameKind, slot)) {
            return SAME;
        }
        markEmpty(slot);
        markKind(slot, kind);
        ready = false;
        return DONE;
    }

    public int literal(int slot, int position) {
        if (!isOccupied(slot)) {
            return BAD_SLOT;
        }
        if (position < 0 || position >= POSITIONS) {
            return BAD_POSITION;
        }
        return literals[slot * POSITIONS + position];
    }

    public int slots(int kind) {
        if (!isClauseKind(kind)) {
            return BAD_KIND;
        }
        return slotsOf(kind);
    }

    public int witness(int mask) {
        if (!isSubset(mask)) {
            return BAD_MASK;
        }
        return leastAssignment(mask);
    }

    public int enumerate() {
        findSatisfiableSubsets();
        listCores();
        listMaximals();
        coresEmitted = 0;
        maximalsEmitted = 0;
        ready = true;
        return coreCount + maximalCount;
    }

    public int count(int list) {
        if (!isListKind(list)) {
            return BAD_KIND;
        }
        if (!ready) {
            return NOT_READY;
        }
        return list == CORE ? coreCount : maximalCount;
    }

    public int emit(int list) {
        if (!isListKind(list)) {
            return BAD_KIND;
        }
        if (!ready) {
            return NOT_READY;
        }
        return list == CORE ? nextCore() : nextMaximal();
    }

    public int emitted(int list) {
        if (!isListKind(list)) {
            return BAD_KIND;
        }
        if (!ready) {
            return NOT_READY;
        }
        return list == CORE ? coresEmitted : maximalsEmitted;
    }

    public int verdict(int mask) {
        if (!ready) {
            return NOT_READY;
        }
        if (!isSubset(mask)) {
            return BAD_MASK;
        }
        return judge(mask);
    }

    public int greatestOpen() {
        if (!ready) {
            return NOT_READY;
        }
        for (int mask = MOST_SUBSETS - 1; mask >= 0; mask--) {
            if (isSubset(mask) && judge(mask) == OPEN) {
                return mask;
            }
        }
        return NONE;
    }

    private static int clamp(int value, int most) {
        if (value < 1) {
            return 1;
        }
        return value > most ? most : value;
    }

    private static boolean isClauseKind(int kind) {
        return kind == SOFT || kind == HARD;
    }

    private static boolean isListKind(int list) {
        return list == CORE || list == MAXIMAL;
    }

    private static boolean contains(int mask, int slot) {
        return (mask & (1 << slot)) != 0;
    }

    private static boolean isWithin(int inner, int outer) {
        return (inner & ~outer) == 0;
    }

    private boolean isLiteralOrAbsent(int literal) {
        return literal >= -variableCount && literal <= variableCount;
    }

    // The range comes first: a shift by a slot that doesn't exist would wrap
    // around to one that does.
    private boolean isOccupied(int slot) {
        return slot >= 0 && slot < slotCount && contains(softSlots | hardSlots, slot);
    }

    // Negative masks fail too: their sign bit is never the bit of a slot.
    private boolean isSubset(int mask) {
        return isWithin(mask, softSlots);
    }

    private int slotsOf(int kind) {
        return kind == SOFT ? softSlots : hardSlots;
    }

    // Answers slotCount when no slot is empty.
    private int lowestEmptySlot() {
        int occupied = softSlots | hardSlots;
        for (int slot = 0; slot < slotCount; slot++) {
            if (!contains(occupied, slot)) {
                return slot;
            }
        }
        return slotCount;
    }

    private void markKind(int slot, int kind) {
        int bit = 1 << slot;
        if (kind == SOFT) {
            softSlots |= bit;
        } else {
            hardSlots |= bit;
        }
    }

    private void markEmpty(int slot) {
        int others = ~(1 << slot);
        softSlots &= others;
        hardSlots &= others;
    }

    // An absent literal is neither above nor below 0 and so adds nothing.
    private boolean isClauseTrue(int slot, int assignment) {
        int start = slot * POSITIONS;
        for (int position = 0; position < POSITIONS; position++) {
            int literal = literals[start + position];
            if (literal > 0 && (assignment & (1 << (literal - 1))) != 0) {
                return true;
            }
            if (literal < 0 && (assignment & (1 << (-literal - 1))) == 0) {
                return true;
            }
        }
        return false;
    }

    private boolean areClausesTrue(int mask, int assignment) {
        for (int slot = 0; slot < slotCount; slot++) {
            if (contains(mask, slot) && !isClauseTrue(slot, assignment)) {
                return false;
            }
        }
        return true;
    }

    // Answers NONE when mask and the hard clauses can't all be true.
    private int leastAssignment(int mask) {
        int required = mask | hardSlots;
        int assignments = 1 << variableCount;
        for (int assignment = 0; assignment < assignments; assignment++) {
            if (areClausesTrue(required, assignment)) {
                return assignment;
            }
        }
        return NONE;
    }

    private void findSatisfiableSubsets() {
        for (int mask = 0; mask < MOST_SUBSETS; mask++) {
            satisfiable[mask] = isSubset(mask) && leastAssignment(mask) != NONE;
        }
    }

    private void listCores() {
        coreCount = 0;
        for (int mask = 0; mask < MOST_SUBSETS; mask++) {
            if (isSubset(mask) && isCore(mask)) {
                cores[coreCount] = mask;
                coreCount++;
            }
        }
    }

    private void listMaximals() {
        maximalCount = 0;
        for (int mask = MOST_SUBSETS - 1; mask >= 0; mask--) {
            if (isSubset(mask) && isMaximal(mask)) {
                maximals[maximalCount] = mask;
                maximalCount++;
            }
        }
    }

    // One slot less is enough to look at: every smaller subset is within one of
    // those, and what is within a satisfiable subset is satisfiable.
    private boolean isCore(int mask) {
        if (satisfiable[mask]) {
            return false;
        }
        for (int slot = 0; slot < slotCount; slot++) {
            if (contains(mask, slot) && !satisfiable[mask & ~(1 << slot)]) {
                return false;
            }
        }
        return true;
    }

    // One slot more is enough to look at, for the same reason as in isCore.
    private boolean isMaximal(int mask) {
        if (!satisfiable[mask]) {
            return false;
        }
        int addable = softSlots & ~mask;
        for (int slot = 0; slot < slotCount; slot++) {
            if (contains(addable, slot) && satisfiable[mask | (1 << slot)]) {
                return false;
            }
        }
        return true;
    }

    private int nextCore() {
        if (coresEmitted >= coreCount) {
            return NONE;
        }
        int mask = cores[coresEmitted];
        coresEmitted++;
        return mask;
    }

    private int nextMaximal() {
        if (maximalsEmitted >= maximalCount) {
            return NONE;
        }
        int mask = maximals[maximalsEmitted];
        maximalsEmitted++;
        return mask;
    }

    private int judge(int mask) {
        for (int i = 0; i < maximalsEmitted; i++) {
            if (isWithin(mask, maximals[i])) {
                return KNOWN_SAT;
            }
        }
        for (int i = 0; i < coresEmitted; i++) {
            if (isWithin(cores[i], mask)) {
                return KNOWN_UNSAT;
            }
        }
        return OPEN;
    }
}
