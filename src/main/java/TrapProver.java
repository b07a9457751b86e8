/**
 * A prover of what can happen in small programs over two registers x and y, each 0 to 15.
 *
 * <p>There are so few states that it goes through all of them, which makes its answers exact.
 */
public final class TrapProver {
    public static final int BAD_OP = -1;
    public static final int FULL = -2;
    public static final int BAD_PLACE = -3;
    public static final int BAD_RANGE = -4;
    public static final int NEVER = -5;

    private static final int SETX = 0;
    private static final int SETY = 1;
    private static final int ADDC = 2;
    private static final int ADD = 3;
    private static final int SUB = 4;
    private static final int MUL = 5;
    private static final int DIV = 6;
    private static final int SWAP = 7;
    private static final int INDEX = 8;
    private static final int READ = 9;
    private static final int JUMP = 10;
    private static final int JEQ = 11;
    private static final int JLT = 12;
    private static final int JZ = 13;
    private static final int HALT = 14;

    private static final int MOST_INSTRUCTIONS = 16;
    private static final int REGISTER_VALUES = 16;
    private static final int GREATEST_VALUE = 15;
    private static final int INDEX_MASK = 31;
    private static final int STATES_AT_A_PLACE = 256;
    private static final int ALL_STATES = 4096;

    // These stand where a next state would: no state has a negative number.
    private static final int ENDS = -1;
    private static final int TRAPS = -2;

    private final int[] ops = new int[MOST_INSTRUCTIONS];
    private final int[] numbers = new int[MOST_INSTRUCTIONS];
    private int length;

    private int leastX;
    private int greatestX;
    private int leastY;
    private int greatestY;

    // What follows is found from the program and the ranges by explore, and holds only while
    // explored is true. A state (p, x, y) has the number that stateNumber gives it.
    private boolean explored;
    private final int[] order = new int[ALL_STATES];
    private int possibleCount;
    private final int[] stepsTo = new int[ALL_STATES];
    private final int[] firstNext = new int[ALL_STATES];
    private final int[] nextCount = new int[ALL_STATES];
    private final boolean[] goesOn = new boolean[ALL_STATES];
    private int endlessCount;

    public TrapProver() {
        length = 0;
        leastX = 0;
        greatestX = GREATEST_VALUE;
        leastY = 0;
        greatestY = GREATEST_VALUE;
        explored = false;
    }

    public int emit(int op, int c) {
        if (op < SETX || op > HALT) {
            return BAD_OP;
        }
        int p = length;
        if (!isPlace(p)) {
            return FULL;
        }
        ops[p] = op;
        numbers[p] = c;
        length = p + 1;
        explored = false;
        return p;
    }

    public int patch(int p, int c) {
        if (!isInstruction(p)) {
            return BAD_PLACE;
        }
        int old = numbers[p];
        numbers[p] = c;
        explored = false;
        return old;
    }

    public int begin(int register, int low, int high) {
        if (!isRegister(register) || low < 0 || low > high || high > GREATEST_VALUE) {
            return BAD_RANGE;
        }
        if (register == 0) {
            leastX = low;
            greatestX = high;
        } else {
            leastY = low;
            greatestY = high;
        }
        explored = false;
        return 0;
    }

    public void clear() {
        length = 0;
        explored = false;
    }

    public int states(int p) {
        if (!isInstruction(p)) {
            return BAD_PLACE;
        }
        explore();
        int first = stateNumber(p, 0, 0);
        int count = 0;
        for (int state = first; state < first + STATES_AT_A_PLACE; state++) {
            if (isPossible(state)) {
                count++;
            }
        }
        return count;
    }

    public boolean possible(int p, int x, int y) {
        if (!isInstruction(p) || !isValue(x) || !isValue(y)) {
            return false;
        }
        explore();
        int state = stateNumber(p, x, y);
        return isPossible(state);
    }

    public int values(int p, int register) {
        if (!isInstruction(p)) {
            return BAD_PLACE;
        }
        if (!isRegister(register)) {
            return BAD_RANGE;
        }
        explore();
        int first = stateNumber(p, 0, 0);
        int mask = 0;
        for (int state = first; state < first + STATES_AT_A_PLACE; state++) {
            if (isPossible(state)) {
                int value = register == 0 ? xOf(state) : yOf(state);
                mask |= 1 << value;
            }
        }
        return mask;
    }

    public int traps(int p) {
        if (!isInstruction(p)) {
            return BAD_PLACE;
        }
        explore();
        int first = stateNumber(p, 0, 0);
        int count = 0;
        for (int state = first; state < first + STATES_AT_A_PLACE; state++) {
            if (isPossibleWithNext(state, TRAPS)) {
                count++;
            }
        }
        return count;
    }

    public boolean safe() {
        explore();
        return !somePossibleStateHasNext(TRAPS);
    }

    public int soonest(int p) {
        if (!isInstruction(p)) {
            return BAD_PLACE;
        }
        explore();
        int first = stateNumber(p, 0, 0);
        int least = NEVER;
        for (int state = first; state < first + STATES_AT_A_PLACE; state++) {
            if (isPossible(state) && (least == NEVER || stepsTo[state] < least)) {
                least = stepsTo[state];
            }
        }
        return least;
    }

    public boolean canEnd() {
        explore();
        return somePossibleStateHasNext(ENDS);
    }

    public boolean canRunForever() {
        explore();
        return endlessCount > 0;
    }

    public int endless() {
        explore();
        return endlessCount;
    }

    private static boolean isPlace(int p) {
        return p >= 0 && p < MOST_INSTRUCTIONS;
    }

    private boolean isInstruction(int p) {
        return isPlace(p) && p < length;
    }

    private static boolean isRegister(int register) {
        return register == 0 || register == 1;
    }

    private static boolean isValue(int value) {
        return value >= 0 && value <= GREATEST_VALUE;
    }

    private static boolean isState(int state) {
        return state >= 0 && state < ALL_STATES;
    }

    private static int stateNumber(int p, int x, int y) {
        return p * STATES_AT_A_PLACE + x * REGISTER_VALUES + y;
    }

    private static int placeOf(int state) {
        return state / STATES_AT_A_PLACE;
    }

    private static int xOf(int state) {
        return state / REGISTER_VALUES % REGISTER_VALUES;
    }

    private static int yOf(int state) {
        return state % REGISTER_VALUES;
    }

    private boolean isPossible(int state) {
        return isState(state) && stepsTo[state] != NEVER;
    }

    private boolean isPossibleWithNext(int state, int outcome) {
        return isPossible(state) && firstNext[state] == outcome;
    }

    private boolean somePossibleStateHasNext(int outcome) {
        for (int state = 0; state < ALL_STATES; state++) {
            if (isPossibleWithNext(state, outcome)) {
                return true;
            }
        }
        return false;
    }

    // Kept until the program or a range changes, since many questions follow one change.
    private void explore() {
        if (explored) {
            return;
        }
        findNextStates();
        forgetPossibleStates();
        if (length > 0) {
            reachBeginnings();
        }
        followRuns();
        dropStatesThatMustEnd();
        explored = true;
    }

    private void findNextStates() {
        for (int state = 0; state < ALL_STATES; state++) {
            int next = firstStateAfter(state);
            firstNext[state] = next;
            nextCount[state] = isState(next) ? choicesAt(state) : 0;
        }
    }

    private void forgetPossibleStates() {
        possibleCount = 0;
        for (int state = 0; state < ALL_STATES; state++) {
            stepsTo[state] = NEVER;
        }
    }

    private void reachBeginnings() {
        for (int x = 0; x < REGISTER_VALUES; x++) {
            for (int y = 0; y < REGISTER_VALUES; y++) {
                if (mayBeginWith(x, y)) {
                    int state = stateNumber(0, x, y);
                    reach(state, 0);
                }
            }
        }
    }

    private boolean mayBeginWith(int x, int y) {
        return x >= leastX && x <= greatestX && y >= leastY && y <= greatestY;
    }

    // Takes the states in the order in which they were reached, so that the first way found to
    // a state is also a shortest one.
    private void followRuns() {
        for (int i = 0; i < ALL_STATES && i < possibleCount; i++) {
            int state = order[i];
            if (isPossible(state)) {
                int steps = stepsTo[state] + 1;
                for (int k = 0; k < REGISTER_VALUES && k < nextCount[state]; k++) {
                    reach(firstNext[state] + k, steps);
                }
            }
        }
    }

    // There is always room in order, since no state is reached twice; it is looked at all the
    // same, so that no index here hangs on what the other methods do.
    private void reach(int state, int steps) {
        int position = possibleCount;
        if (!isState(state) || isPossible(state) || position < 0 || position >= ALL_STATES) {
            return;
        }
        stepsTo[state] = steps;
        order[position] = state;
        possibleCount = position + 1;
    }

    // A state keeps goesOn if one of its next states keeps it; what is left when a round drops
    // none can be run through forever. Each round before the last drops at least one state.
    // The rounds go backwards because most states are reached before the ones after them.
    private void dropStatesThatMustEnd() {
        for (int state = 0; state < ALL_STATES; state++) {
            goesOn[state] = isPossible(state);
        }
        endlessCount = possibleCount;
        boolean dropped = true;
        for (int round = 0; round <= ALL_STATES && dropped; round++) {
            dropped = false;
            for (int i = possibleCount - 1; i >= 0 && i < ALL_STATES; i--) {
                int state = order[i];
                if (stillGoesOn(state) && !hasNextThatGoesOn(state)) {
                    goesOn[state] = false;
                    endlessCount--;
                    dropped = true;
                }
            }
        }
    }

    private boolean stillGoesOn(int state) {
        return isState(state) && goesOn[state];
    }

    private boolean hasNextThatGoesOn(int state) {
        if (!isState(state)) {
            return false;
        }
        for (int k = 0; k < REGISTER_VALUES && k < nextCount[state]; k++) {
            if (stillGoesOn(firstNext[state] + k)) {
                return true;
            }
        }
        return false;
    }

    // READ alone has several next states. They differ in y only, so their numbers follow each
    // other from the first one, where y is 0.
    private int choicesAt(int state) {
        int p = placeOf(state);
        return isInstruction(p) && ops[p] == READ ? REGISTER_VALUES : 1;
    }

    private int firstStateAfter(int state) {
        int p = placeOf(state);
        if (!isInstruction(p)) {
            return ENDS;
        }
        int x = xOf(state);
        int y = yOf(state);
        int op = ops[p];
        int c = numbers[p];
        if (trapsWith(op, c, x, y)) {
            return TRAPS;
        }
        int place = goesElsewhere(op, x, y) ? c : p + 1;
        if (op == HALT || !isInstruction(place)) {
            return ENDS;
        }
        int nextX = xAfter(op, c, x, y);
        int nextY = leastYAfter(op, c, x, y);
        return stateNumber(place, nextX, nextY);
    }

    private static boolean trapsWith(int op, int c, int x, int y) {
        switch (op) {
            case DIV:
                return y == 0;
            case INDEX:
                return x >= (c & INDEX_MASK);
            default:
                return false;
        }
    }

    private static boolean goesElsewhere(int op, int x, int y) {
        switch (op) {
            case JUMP:
                return true;
            case JEQ:
                return x == y;
            case JLT:
                return x < y;
            case JZ:
                return x == 0;
            default:
                return false;
        }
    }

    private static int xAfter(int op, int c, int x, int y) {
        switch (op) {
            case SETX:
                return c & GREATEST_VALUE;
            case ADDC:
                return (x + c) & GREATEST_VALUE;
            case ADD:
                return (x + y) & GREATEST_VALUE;
            case SUB:
                return (x - y) & GREATEST_VALUE;
            case MUL:
                return (x * y) & GREATEST_VALUE;
            case DIV:
                return y == 0 ? x : x / y;
            case SWAP:
                return y;
            default:
                return x;
        }
    }

    private static int leastYAfter(int op, int c, int x, int y) {
        switch (op) {
            case SETY:
                return c & GREATEST_VALUE;
            case SWAP:
                return x;
            case READ:
                return 0;
            default:
                return y;
        }
    }
}
