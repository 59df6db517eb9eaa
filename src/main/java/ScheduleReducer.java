/** Explores how the steps of a few threads can follow each other, and what can come of it. */
public final class ScheduleReducer {
    public static final int NONE = -1;
    public static final int FULL = -2;

    private static final int LOAD = 0;
    private static final int STORE = 1;
    private static final int SWAP = 2;
    private static final int PLUS = 3;
    private static final int TAKE = 4;
    private static final int GIVE = 5;

    private static final int THREADS = 3;
    private static final int VARIABLES = 3;
    private static final int LOCKS = 2;
    private static final int MOST_STEPS = 4;
    private static final int MOST_TURNS = THREADS * MOST_STEPS;

    // The variables and then the accumulators share one array, since the same questions are asked of both.
    private static final int CELLS = VARIABLES + THREADS;

    // The walk keeps the state before every turn and after the last one, so going back undoes nothing.
    private static final int LEVELS = MOST_TURNS + 1;
    private static final int ALL_VALUES = LEVELS * CELLS;
    private static final int ALL_HOLDERS = LEVELS * LOCKS;
    private static final int ALL_DONE = LEVELS * THREADS;

    // Three threads of four steps have 12! / (4! 4! 4!) = 34650 schedules, so no walk comes near this.
    private static final int FAR_BOUND = 1000000;

    private final int[] kinds = new int[MOST_TURNS];
    private final int[] operands = new int[MOST_TURNS];
    private final int[] lengths = new int[THREADS];
    private final int[] beginnings = new int[CELLS];

    private final int[] values = new int[ALL_VALUES];
    private final int[] holders = new int[ALL_HOLDERS];
    private final int[] done = new int[ALL_DONE];
    private final int[] turnThreads = new int[MOST_TURNS];
    private final int[] turnSteps = new int[MOST_TURNS];
    private int turns = 0;

    public ScheduleReducer() {
    }

    public int step(int t, int kind, int n) {
        if (!isThread(t) || !isStep(kind, n)) {
            return NONE;
        }
        int place = lengths[t];
        if (place >= MOST_STEPS) {
            return FULL;
        }
        kinds[t * MOST_STEPS + place] = kind;
        operands[t * MOST_STEPS + place] = n;
        lengths[t] = place + 1;
        return place;
    }

    public int drop(int t) {
        if (!isThread(t) || lengths[t] == 0) {
            return NONE;
        }
        lengths[t]--;
        return lengths[t];
    }

    public boolean begin(int what, int x, int v) {
        if (what == 0 && isVariable(x)) {
            beginnings[x] = v;
            return true;
        }
        if (what == 1 && isThread(x)) {
            beginnings[VARIABLES + x] = v;
            return true;
        }
        return false;
    }

    public int length(int t) {
        return isThread(t) ? lengths[t] : NONE;
    }

    public int schedules() {
        int count = 0;
        goToFirstEnd();
        do {
            count++;
        } while (count < FAR_BOUND && goToNextEnd());
        return count;
    }

    public int classes() {
        int count = 0;
        int seen = 0;
        goToFirstEnd();
        do {
            if (isFirstOfItsClass()) {
                count++;
            }
            seen++;
        } while (seen < FAR_BOUND && goToNextEnd());
        return count;
    }

    public boolean canStick() {
        int seen = 0;
        goToFirstEnd();
        do {
            if (isStuck()) {
                return true;
            }
            seen++;
        } while (seen < FAR_BOUND && goToNextEnd());
        return false;
    }

    public boolean canEnd(int x, int v) {
        return isVariable(x) && canEndWith(x, v, x, v);
    }

    public boolean canEndBoth(int x, int v, int y, int w) {
        return isVariable(x) && isVariable(y) && canEndWith(x, v, y, w);
    }

    public int extreme(int x, int what) {
        if (!isVariable(x) || !isSide(what)) {
            return 0;
        }
        return extremeOfCell(x, what == 1);
    }

    public int accumulator(int t, int what) {
        if (!isThread(t) || !isSide(what)) {
            return 0;
        }
        return extremeOfCell(VARIABLES + t, what == 1);
    }

    public boolean races(int x) {
        if (!isVariable(x)) {
            return false;
        }
        int seen = 0;
        goToFirstEnd();
        int first = valueNow(x);
        do {
            if (valueNow(x) != first) {
                return true;
            }
            seen++;
        } while (seen < FAR_BOUND && goToNextEnd());
        return false;
    }

    private static boolean isThread(int t) {
        return t >= 0 && t < THREADS;
    }

    private static boolean isVariable(int x) {
        return x >= 0 && x < VARIABLES;
    }

    private static boolean isSide(int what) {
        return what == 0 || what == 1;
    }

    private static boolean isStep(int kind, int n) {
        if (isAccess(kind)) {
            return isVariable(n);
        }
        if (isLocking(kind)) {
            return n >= 0 && n < LOCKS;
        }
        return kind == PLUS;
    }

    private static boolean isAccess(int kind) {
        return kind == LOAD || kind == STORE || kind == SWAP;
    }

    private static boolean isLocking(int kind) {
        return kind == TAKE || kind == GIVE;
    }

    private boolean canEndWith(int x, int v, int y, int w) {
        int seen = 0;
        goToFirstEnd();
        do {
            if (valueNow(x) == v && valueNow(y) == w) {
                return true;
            }
            seen++;
        } while (seen < FAR_BOUND && goToNextEnd());
        return false;
    }

    private int extremeOfCell(int cell, boolean greatest) {
        int seen = 0;
        goToFirstEnd();
        int best = valueNow(cell);
        do {
            int value = valueNow(cell);
            if (greatest ? value > best : value < best) {
                best = value;
            }
            seen++;
        } while (seen < FAR_BOUND && goToNextEnd());
        return best;
    }

    private int valueNow(int cell) {
        return values[turns * CELLS + cell];
    }

    private boolean isStuck() {
        for (int t = 0; t < THREADS; t++) {
            if (done[turns * THREADS + t] < lengths[t]) {
                return true;
            }
        }
        return false;
    }

    // Each class is counted by one schedule: the one whose list of threads is the least in dictionary order.
    // A schedule is that one exactly when no turn can be brought, by allowed exchanges, before a turn of a
    // greater thread.
    private boolean isFirstOfItsClass() {
        for (int turn = 0; turn < turns; turn++) {
            if (canComeBeforeGreater(turn)) {
                return false;
            }
        }
        return true;
    }

    private boolean canComeBeforeGreater(int turn) {
        int thread = turnThreads[turn];
        for (int before = turn - 1; before >= 0; before--) {
            if (turnThreads[before] == thread || touch(turnSteps[before], turnSteps[turn])) {
                return false;
            }
            if (turnThreads[before] > thread) {
                return true;
            }
        }
        return false;
    }

    private boolean touch(int one, int other) {
        if (operands[one] != operands[other]) {
            return false;
        }
        if (isAccess(kinds[one]) && isAccess(kinds[other])) {
            return kinds[one] != LOAD || kinds[other] != LOAD;
        }
        return isLocking(kinds[one]) && isLocking(kinds[other]);
    }

    // The walk meets the complete schedules in the dictionary order of their lists of threads.
    private void goToFirstEnd() {
        for (int cell = 0; cell < CELLS; cell++) {
            values[cell] = beginnings[cell];
        }
        for (int lock = 0; lock < LOCKS; lock++) {
            holders[lock] = NONE;
        }
        for (int t = 0; t < THREADS; t++) {
            done[t] = 0;
        }
        turns = 0;
        runToEnd();
    }

    private boolean goToNextEnd() {
        for (int turn = turns - 1; turn >= 0; turn--) {
            turns = turn;
            int thread = ableThreadFrom(turnThreads[turn] + 1);
            if (thread != NONE) {
                takeTurn(thread);
                runToEnd();
                return true;
            }
        }
        return false;
    }

    private void runToEnd() {
        for (int turn = turns; turn < MOST_TURNS; turn++) {
            int thread = ableThreadFrom(0);
            if (thread == NONE) {
                return;
            }
            takeTurn(thread);
        }
    }

    private int ableThreadFrom(int least) {
        for (int t = least; t < THREADS; t++) {
            if (canHaveTurn(t)) {
                return t;
            }
        }
        return NONE;
    }

    private boolean canHaveTurn(int t) {
        int place = done[turns * THREADS + t];
        if (place >= lengths[t]) {
            return false;
        }
        int next = t * MOST_STEPS + place;
        return kinds[next] != TAKE || holders[turns * LOCKS + operands[next]] == NONE;
    }

    private void takeTurn(int t) {
        int next = t * MOST_STEPS + done[turns * THREADS + t];
        turnThreads[turns] = t;
        turnSteps[turns] = next;
        copyStateToNextLevel();
        turns++;
        done[turns * THREADS + t]++;
        carryOut(t, kinds[next], operands[next]);
    }

    private void copyStateToNextLevel() {
        for (int cell = turns * CELLS; cell < (turns + 1) * CELLS; cell++) {
            values[cell + CELLS] = values[cell];
        }
        for (int lock = turns * LOCKS; lock < (turns + 1) * LOCKS; lock++) {
            holders[lock + LOCKS] = holders[lock];
        }
        for (int t = turns * THREADS; t < (turns + 1) * THREADS; t++) {
            done[t + THREADS] = done[t];
        }
    }

    private void carryOut(int t, int kind, int n) {
        int cells = turns * CELLS;
        int locks = turns * LOCKS;
        int own = cells + VARIABLES + t;
        switch (kind) {
            case LOAD:
                values[own] = values[cells + n];
                break;
            case STORE:
                values[cells + n] = values[own];
                break;
            case SWAP:
                int old = values[own];
                values[own] = values[cells + n];
                values[cells + n] = old;
                break;
            case PLUS:
                values[own] += n;
                break;
            case TAKE:
                holders[locks + n] = t;
                break;
            default:
                if (holders[locks + n] == t) {
                    holders[locks + n] = NONE;
                }
                break;
        }
    }
}
