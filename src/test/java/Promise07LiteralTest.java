/** Promise 7: reading a literal. */
public final class Promise07LiteralTest {
    public static void main(String[] args) {
        Checks.sentence("BAD_SLOT if slot is below 0, above C-1, or empty.",
                () -> State.eachSlotBelow((state, slot) -> refuseBadSlot(state.x, slot)),
                () -> State.eachSlotAbove((state, slot) -> refuseBadSlot(state.x, slot)),
                () -> State.eachEmptySlot((state, slot) -> refuseBadSlot(state.x, slot)),
                Promise07LiteralTest::emptiedSlotsAreRefused);
        Checks.sentence("BAD_POSITION if position is below 0 or above 2.",
                Promise07LiteralTest::positionsBelowAreRefused, Promise07LiteralTest::positionsAboveAreRefused);
        Checks.sentence("in this order:", Promise07LiteralTest::badSlotComesBeforeBadPosition);
        Checks.sentence("Otherwise it answers the literal at that position exactly as it was given to addClause"
                + " (0 if absent).",
                Promise07LiteralTest::answersLiteralsAsGiven, Promise07LiteralTest::absentLiteralsAreZero,
                Promise07LiteralTest::theLastSlotIsRead);
        Checks.sentence("It works whether the object is ready or not, and changes nothing.",
                Promise07LiteralTest::worksInEveryState, () -> State.dueNoTrace(Promise07LiteralTest::readAll));
        Checks.finish();
    }

    private static void emptiedSlotsAreRefused() {
        CoreEnumerator x = Checks.halfEmittedExample();
        for (int slot = 0; slot < 4; slot++) {
            x.removeClause(slot);
            refuseBadSlot(x, slot);
        }
    }

    private static void positionsBelowAreRefused() {
        dueBadPositions(Integer.MIN_VALUE, Integer.MIN_VALUE + 1, -256, -32, -4, -3, -2, -1);
    }

    private static void positionsAboveAreRefused() {
        dueBadPositions(3, 4, 5, 6, 32, 33, 256, Integer.MAX_VALUE - 1, Integer.MAX_VALUE);
    }

    private static void dueBadPositions(int... positions) {
        State.eachOccupiedSlot((state, slot) -> {
            for (int position : positions) {
                dueLiteral(state.x, slot, position, CoreEnumerator.BAD_POSITION);
            }
        });
    }

    private static void badSlotComesBeforeBadPosition() {
        State.eachBadSlot((state, slot) -> {
            dueLiteral(state.x, slot, -1, CoreEnumerator.BAD_SLOT);
            dueLiteral(state.x, slot, 3, CoreEnumerator.BAD_SLOT);
            dueLiteral(state.x, slot, Integer.MIN_VALUE, CoreEnumerator.BAD_SLOT);
            dueLiteral(state.x, slot, Integer.MAX_VALUE, CoreEnumerator.BAD_SLOT);
        });
    }

    private static void answersLiteralsAsGiven() {
        for (int a = -5; a <= 5; a++) {
            for (int b = -5; b <= 5; b++) {
                CoreEnumerator x = Checks.object(5, 2, Checks.hard(b, a, 5), Checks.soft(a, -5, b));
                dueExact(x, a, b);
                x.enumerate();
                dueExact(x, a, b);
                x.setKind(1, CoreEnumerator.HARD);
                dueExact(x, a, b);
            }
        }
    }

    private static void dueExact(CoreEnumerator x, int a, int b) {
        Checks.dueLiterals(x, 0, b, a, 5);
        Checks.dueLiterals(x, 1, a, -5, b);
    }

    private static void absentLiteralsAreZero() {
        CoreEnumerator x = Checks.object(5, 4,
                Checks.soft(0, 4, 5), Checks.soft(4, 0, 5), Checks.hard(4, 5, 0), Checks.soft(0, 0, 0));
        Checks.dueLiterals(x, 0, 0, 4, 5);
        Checks.dueLiterals(x, 1, 4, 0, 5);
        Checks.dueLiterals(x, 2, 4, 5, 0);
        Checks.dueLiterals(x, 3, 0, 0, 0);
        // A clause that was here before leaves nothing in the absent positions.
        x.removeClause(2);
        Checks.add(x, 2, CoreEnumerator.SOFT, 0, 0, -1);
        Checks.dueLiterals(x, 2, 0, 0, -1);
    }

    private static void theLastSlotIsRead() {
        for (int capacity = 1; capacity <= 8; capacity++) {
            CoreEnumerator x = new CoreEnumerator(3, capacity);
            for (int slot = 0; slot < capacity; slot++) {
                Checks.add(x, slot, CoreEnumerator.SOFT, 1, -2, 3);
            }
            Checks.dueLiterals(x, capacity - 1, 1, -2, 3);
            Checks.due("literal of slot C", x.literal(capacity, 0), CoreEnumerator.BAD_SLOT);
        }
    }

    private static void worksInEveryState() {
        int[][] full = {{1, 2, 3}, {-1, 0, 0}, {-2, 0, -3}, {0, -2, 0}, {-3, 0, 0}, {5, 4, 0}, {-5, 0, 0}, {0, 0, -4}};
        for (State state : State.all()) {
            if (state.capacity == 8) {
                for (int slot = 0; slot < 8; slot++) {
                    for (int position = 0; position < 3; position++) {
                        dueLiteral(state.x, slot, position, full[slot][position]);
                    }
                }
            }
        }
    }

    private static void readAll(State state) {
        for (int slot = 0; slot < state.capacity; slot++) {
            for (int position = 0; position < 3; position++) {
                state.x.literal(slot, position);
            }
        }
    }

    private static void refuseBadSlot(CoreEnumerator x, int slot) {
        for (int position = 0; position < 3; position++) {
            dueLiteral(x, slot, position, CoreEnumerator.BAD_SLOT);
        }
    }

    private static void dueLiteral(CoreEnumerator x, int slot, int position, int due) {
        Checks.dueUnchanged(x, "literal(" + slot + ", " + position + ")", () -> x.literal(slot, position), due);
    }
}
