/**
 * Runs programs of a small language whose functions can take up what is still to be done as a
 * function of its own.
 *
 * A value is one long: its kind in the upper half, and in the lower half the number, the place and
 * the environment of a function, or the segment that a SHIFT took. No value is 0.
 *
 * An environment is the number of a cell, which holds the value of the innermost name and the
 * environment around it; 0 is the empty one. Cells and segments are numbered together, segments
 * first, so that the collector can follow both in one list.
 */
public final class SegmentMachine {
    public static final int BAD = -1;
    public static final int FULL_LIST = -2;
    public static final int NONE = 0;
    public static final int DONE = 1;
    public static final int WRONG = 2;
    public static final int LONG = 3;
    public static final int DEEP = 4;
    public static final int FULL = 5;

    private static final int MOST_TOKENS = 32;
    private static final int MOST_ROOM = 1000;
    private static final int MOST_CALLS = 40;
    private static final int MOST_SHIFTS = 8;
    private static final int MOST_PENDING = 16;
    private static final int MOST_OUTS = 16;

    // A token divided by ten is its group, and what is left is its name where the group has names.
    private static final int TEN = 10;
    private static final int NAMES = 3;
    private static final int FUNCTIONS = 4;
    private static final int OPERATIONS = 5;
    private static final int LETS = 6;
    private static final int SHIFTS = 7;

    private static final int CALL = 52;
    private static final int SUM = 53;
    private static final int MINUS = 54;
    private static final int PRODUCT = 55;
    private static final int LESS = 56;
    private static final int CONDITION = 57;
    private static final int PUT_OUT = 58;
    private static final int RESET = 59;
    private static final int ZERO = 100;

    private static final int NUMBER = 1;
    private static final int FUNCTION = 2;
    private static final int SEGMENT = 3;
    private static final int UPPER_HALF = 32;
    private static final long LOWER_HALF = 0xFFFFFFFFL;
    private static final long NO_VALUE = 0L;

    private static final int UNBOUND = -1;
    private static final int VALUE_IN_HAND = -1;
    private static final int RESET_FRAME = -1;

    // Row 0 holds what is pending, row s what the s-th SHIFT took.
    private static final int FRAMES = (MOST_SHIFTS + 1) * MOST_PENDING;

    // A run takes a cell for a call, a SHIFT, or the value of a 60. The program has at most 15 of
    // the last, and each of them is done at most once by the program, by each call of a function
    // and by each of the at most 14 terms that a call of a segment makes pending: at most
    // 40 + 8 + 15 + 40 * 14 * 15 = 8463 cells, even if none could be used again.
    private static final int FIRST_CELL = MOST_SHIFTS + 1;
    private static final int CELLS = 9000;

    // The program, each call and each term that a call makes pending work out every token at most
    // once: 32 + 40 * 14 * 32 tokens with at most three steps each are far fewer.
    private static final int MOST_STEPS = 1000000;

    private final int[] tokens = new int[MOST_TOKENS];
    private int tokenCount;

    // What compiling finds: where each term ends, and how far out each name's value is.
    private final int[] ends = new int[MOST_TOKENS];
    private final int[] hops = new int[MOST_TOKENS];

    private final int[] frameTerm = new int[FRAMES];
    private final int[] frameEnvironment = new int[FRAMES];
    private final long[] frameFirst = new long[FRAMES];
    private final int[] segmentSize = new int[FIRST_CELL];
    private int pending;

    private final long[] cellValue = new long[CELLS];
    private final int[] cellNext = new int[CELLS];
    private int lastCell;
    private int unusedCell;
    private int takenCells;

    private final boolean[] isReached = new boolean[CELLS];
    private final int[] reached = new int[CELLS];
    private int reachedCount;

    private int place;
    private int environment;
    private long value;

    private final int[] outNumbers = new int[MOST_OUTS];
    private int outCount;
    private int callCount;
    private int shiftCount;
    private int deepestPending;
    private int ending;

    public SegmentMachine() {
        tokenCount = 0;
        forgetRun();
    }

    public int feed(int token) {
        if (!isToken(token)) {
            return BAD;
        }
        if (tokenCount == MOST_TOKENS || complete()) {
            return FULL_LIST;
        }
        tokens[tokenCount] = token;
        tokenCount++;
        forgetRun();
        return tokenCount;
    }

    public int undo() {
        if (tokenCount == 0) {
            return BAD;
        }
        tokenCount--;
        forgetRun();
        return tokens[tokenCount];
    }

    public int token(int i) {
        return i >= 0 && i < tokenCount ? tokens[i] : BAD;
    }

    public boolean complete() {
        int missing = 1;
        for (int at = 0; at < tokenCount; at++) {
            missing += partsOf(tokens[at]) - 1;
        }
        return missing == 0;
    }

    public int free() {
        if (!complete()) {
            return BAD;
        }
        compile();
        int names = 0;
        for (int at = 0; at < tokenCount; at++) {
            if (hops[at] == UNBOUND) {
                names |= 1 << (tokens[at] % TEN);
            }
        }
        return names;
    }

    public int run(int room) {
        if (room < 1 || room > MOST_ROOM || !complete()) {
            return BAD;
        }
        compile();
        forgetRun();
        startRun();
        for (int step = 0; step < MOST_STEPS && ending == NONE; step++) {
            if (place == VALUE_IN_HAND) {
                handBack();
            } else {
                workOut();
            }
            noteDepth();
            if (takenCells >= room) {
                collect();
            }
        }
        return ending;
    }

    public int status() {
        return ending;
    }

    public int kind() {
        if (ending != DONE) {
            return 0;
        }
        return kindOf(value) == NUMBER ? 1 : 2;
    }

    public int number() {
        return kind() == 1 ? (int) value : 0;
    }

    public int outs() {
        return outCount;
    }

    public int out(int i) {
        return i >= 0 && i < outCount ? outNumbers[i] : 0;
    }

    public int calls() {
        return callCount;
    }

    public int shifts() {
        return shiftCount;
    }

    public int deepest() {
        return deepestPending;
    }

    private static boolean isToken(int token) {
        return token >= 30 && token <= 35
            || token >= 40 && token <= 45
            || token >= CALL && token <= 65
            || token >= 70 && token <= 75
            || token >= 80 && token <= 120;
    }

    private static int partsOf(int token) {
        int group = token / TEN;
        if (group == FUNCTIONS || group == SHIFTS || token == PUT_OUT || token == RESET) {
            return 1;
        }
        if (token == CONDITION) {
            return 3;
        }
        return group == OPERATIONS || group == LETS ? 2 : 0;
    }

    private void forgetRun() {
        ending = NONE;
        value = NO_VALUE;
        outCount = 0;
        callCount = 0;
        shiftCount = 0;
        deepestPending = 0;
    }

    private void compile() {
        findEnds();
        for (int at = 0; at < tokenCount; at++) {
            hops[at] = tokens[at] / TEN == NAMES ? hopsFrom(at) : 0;
        }
    }

    // From the last token to the first, so that the parts of a term are known before it.
    private void findEnds() {
        for (int at = tokenCount - 1; at >= 0; at--) {
            int end = at + 1;
            int parts = partsOf(tokens[at]);
            for (int part = 0; part < parts; part++) {
                end = ends[end];
            }
            ends[at] = end;
        }
    }

    // Every giver of a name around a place has one cell in the environment there, the innermost
    // first, so the givers in between are the cells to pass.
    private int hopsFrom(int at) {
        int passed = 0;
        for (int giver = at - 1; giver >= 0; giver--) {
            if (givesNameAt(giver, at)) {
                if (tokens[giver] % TEN == tokens[at] % TEN) {
                    return passed;
                }
                passed++;
            }
        }
        return UNBOUND;
    }

    private boolean givesNameAt(int giver, int at) {
        int group = tokens[giver] / TEN;
        if (group != FUNCTIONS && group != LETS && group != SHIFTS) {
            return false;
        }
        // The first part of a 60 is worked out before its name has a value.
        int from = group == LETS ? ends[giver + 1] : giver + 1;
        return at >= from && at < ends[giver];
    }

    private void startRun() {
        lastCell = FIRST_CELL - 1;
        unusedCell = 0;
        takenCells = 0;
        pending = 0;
        place = 0;
        environment = 0;
        pushFrame(RESET_FRAME, 0);
    }

    private void workOut() {
        int token = tokens[place];
        int group = token / TEN;
        if (group == NAMES) {
            lookUp();
        } else if (group == FUNCTIONS) {
            takeInHand(FUNCTION, place * CELLS + environment);
        } else if (group == SHIFTS) {
            shift();
        } else if (group == OPERATIONS || group == LETS) {
            makePending(token);
        } else {
            takeInHand(NUMBER, token - ZERO);
        }
    }

    private void lookUp() {
        int passing = hops[place];
        if (passing == UNBOUND) {
            ending = WRONG;
            return;
        }
        int cell = environment;
        for (int passed = 0; passed < passing; passed++) {
            cell = cellNext[cell];
        }
        value = cellValue[cell];
        place = VALUE_IN_HAND;
    }

    private void makePending(int token) {
        if (pending == MOST_PENDING) {
            ending = DEEP;
            return;
        }
        if (token == RESET) {
            pushFrame(RESET_FRAME, 0);
        } else {
            pushFrame(place, environment);
        }
        place++;
    }

    private void shift() {
        if (shiftCount == MOST_SHIFTS) {
            ending = LONG;
            return;
        }
        shiftCount++;
        int first = pending;
        while (first > 1 && frameTerm[first - 1] != RESET_FRAME) {
            first--;
        }
        int size = pending - first;
        segmentSize[shiftCount] = size;
        copyFrames(first, shiftCount * MOST_PENDING, size);
        pending = first;
        long taken = valueOf(SEGMENT, shiftCount);
        giveName(taken, environment);
        place++;
    }

    // Gives the value in hand to the innermost pending term.
    private void handBack() {
        int top = pending - 1;
        int term = frameTerm[top];
        if (term == RESET_FRAME) {
            pending = top;
            ending = pending == 0 ? DONE : NONE;
            return;
        }
        int token = tokens[term];
        environment = frameEnvironment[top];
        if (token <= LESS && frameFirst[top] == NO_VALUE) {
            frameFirst[top] = value;
            place = ends[term + 1];
            return;
        }
        pending = top;
        if (token == CALL) {
            callFunction(frameFirst[top]);
        } else if (token <= LESS) {
            reckon(token, frameFirst[top]);
        } else if (token == CONDITION) {
            choose(ends[term + 1]);
        } else if (token == PUT_OUT) {
            putOut();
        } else {
            giveName(value, environment);
            place = ends[term + 1];
        }
    }

    private void callFunction(long function) {
        int kind = kindOf(function);
        if (kind == NUMBER) {
            ending = WRONG;
            return;
        }
        if (callCount == MOST_CALLS) {
            ending = LONG;
            return;
        }
        callCount++;
        int content = (int) function;
        if (kind == SEGMENT) {
            resume(content);
        } else {
            giveName(value, content % CELLS);
            place = content / CELLS + 1;
        }
    }

    private void resume(int segment) {
        int size = segmentSize[segment];
        if (pending + 1 + size > MOST_PENDING) {
            ending = DEEP;
            return;
        }
        pushFrame(RESET_FRAME, 0);
        copyFrames(segment * MOST_PENDING, pending, size);
        pending += size;
    }

    private void reckon(int token, long first) {
        if (kindOf(first) != NUMBER || kindOf(value) != NUMBER) {
            ending = WRONG;
            return;
        }
        int a = (int) first;
        int b = (int) value;
        int result = 0;
        if (token == SUM) {
            result = a + b;
        } else if (token == MINUS) {
            result = a - b;
        } else if (token == PRODUCT) {
            result = a * b;
        } else if (a < b) {
            result = 1;
        }
        value = valueOf(NUMBER, result);
    }

    private void choose(int whenNotZero) {
        if (kindOf(value) != NUMBER) {
            ending = WRONG;
            return;
        }
        place = (int) value != 0 ? whenNotZero : ends[whenNotZero];
    }

    private void putOut() {
        if (kindOf(value) != NUMBER) {
            ending = WRONG;
            return;
        }
        if (outCount == MOST_OUTS) {
            ending = FULL;
            return;
        }
        outNumbers[outCount] = (int) value;
        outCount++;
    }

    private void takeInHand(int kind, int content) {
        value = valueOf(kind, content);
        place = VALUE_IN_HAND;
    }

    private static long valueOf(int kind, int content) {
        return ((long) kind << UPPER_HALF) | (content & LOWER_HALF);
    }

    private static int kindOf(long some) {
        return (int) (some >> UPPER_HALF);
    }

    private void pushFrame(int term, int around) {
        frameTerm[pending] = term;
        frameEnvironment[pending] = around;
        frameFirst[pending] = NO_VALUE;
        pending++;
    }

    // A segment can be called more than once, so its frames are copied and never changed.
    private void copyFrames(int from, int to, int size) {
        for (int frame = 0; frame < size; frame++) {
            frameTerm[to + frame] = frameTerm[from + frame];
            frameEnvironment[to + frame] = frameEnvironment[from + frame];
            frameFirst[to + frame] = frameFirst[from + frame];
        }
    }

    private void noteDepth() {
        if (pending > deepestPending) {
            deepestPending = pending;
        }
    }

    private void giveName(long named, int around) {
        int cell = unusedCell;
        if (cell != 0) {
            unusedCell = cellNext[cell];
        } else {
            // The last cell is never passed: CELLS is above what a run can take.
            lastCell += lastCell < CELLS - 1 ? 1 : 0;
            cell = lastCell;
        }
        cellValue[cell] = named;
        cellNext[cell] = around;
        environment = cell;
        takenCells++;
    }

    // A cell is taken only on the way into a term, so there is no value in hand to be kept.
    private void collect() {
        for (int thing = 0; thing <= lastCell; thing++) {
            isReached[thing] = false;
        }
        reachedCount = 0;
        reach(environment);
        reachFrames(0, pending);
        for (int next = 0; next < reachedCount && next < CELLS; next++) {
            int thing = reached[next];
            if (thing < FIRST_CELL) {
                reachFrames(thing * MOST_PENDING, segmentSize[thing]);
            } else {
                reach(cellNext[thing]);
                reachValue(cellValue[thing]);
            }
        }
        sweep();
        takenCells = 0;
    }

    private void reachFrames(int from, int size) {
        for (int frame = from; frame < from + size; frame++) {
            reach(frameEnvironment[frame]);
            reachValue(frameFirst[frame]);
        }
    }

    private void reachValue(long some) {
        int kind = kindOf(some);
        if (kind == FUNCTION) {
            reach(((int) some) % CELLS);
        } else if (kind == SEGMENT) {
            reach((int) some);
        }
    }

    private void reach(int thing) {
        if (thing != 0 && !isReached[thing]) {
            isReached[thing] = true;
            reached[reachedCount] = thing;
            reachedCount++;
        }
    }

    private void sweep() {
        unusedCell = 0;
        for (int cell = FIRST_CELL; cell <= lastCell; cell++) {
            if (!isReached[cell]) {
                cellNext[cell] = unusedCell;
                unusedCell = cell;
            }
        }
    }
}
