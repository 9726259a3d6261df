/** All ways in which three small programs can take turns; the promises are those of DOC.md. */
public final class ScheduleLab {
    public static final int REFUSED = -1, MANY = -2, NEVER = -3;

    private static final int THREADS = 3, VARIABLES = 4, LOCKS = 2, NUMBERS = 8;
    private static final int MOST_CODE = 5, ALL_CODE = THREADS * MOST_CODE;
    private static final int MOST_STATES = 1200, MOST_KINDS = 2000;

    private static final int LOAD = 0, STORE = 1, SWAP = 2, INC = 3, SET = 4, ADD = 5;
    private static final int SKIP = 6, LOCK = 7, UNLOCK = 8, CHECK = 9, WAIT = 10, NOTIFY = 11;
    private static final int MOST_SKIPPED = 3;

    // Where a state's numbers are in its cells: the variables first, in the order that 'now' has.
    private static final int ACC = 4, AT = 7, TAKER = 10, WAITER = 12, BAD = 15, CELLS = 16;
    private static final int READY_THREADS = 16;
    private static final int BEHIND = MOST_CODE;
    private static final int NOBODY = 0;
    private static final int ACTIVE = 0, WAITING = 1, NOTIFIED = 2;
    private static final int CELL_BITS = 3, CELL_MASK = 7;

    private static final int SEEK_BAD = 0, SEEK_STUCK = 1, SEEK_DONE = 2, SEEK_GOOD = 3;
    private static final int BAD_ENDING = 4096, STUCK_ENDING = 8192, ENDINGS = 16384;

    // Only a WAIT can take two steps, all else one, so that no run has more.
    private static final int MOST_STEPS = 2 * ALL_CODE, TRAIL = MOST_STEPS + 1;
    // One state too many is kept, as the sign that there are MANY.
    private static final int KEPT = MOST_STATES + 1;
    // More than three times as many as the states kept, so that a search in them stays short.
    private static final int SLOTS = 4096;
    private static final long SPREAD = 0x9E3779B97F4A7C15L;
    private static final int SPREAD_SHIFT = 52;
    // The walk of kinds never needs as many turns. It comes to no two rows of steps that are alike,
    // and when it leaves one, the kind of a run that begins so is counted. A kind has no more
    // than 11 * 11 * 11 such beginnings, for a thread takes 0 to 10 steps; so with 2001 kinds it
    // comes to less than 2.7 million rows, with two turns for each.
    private static final int MOST_TURNS = 10000000;

    private final int[] ops = new int[ALL_CODE];
    private final int[] args = new int[ALL_CODE];
    private final int[] codeLength = new int[THREADS];

    /** The packed states from the first one to the present one, which is at number 'steps'. */
    private final long[] trail = new long[TRAIL];
    private int steps;

    /** The state at work: what a step reads and changes. Takers are one more than the thread. */
    private final int[] cell = new int[CELLS];

    /** The states that can come, nearest first, each with the step that led there first. */
    private final long[] found = new long[KEPT];
    private final int[] cameFrom = new int[KEPT];
    private final int[] cameBy = new int[KEPT];
    private final int[] distance = new int[KEPT];
    private int foundCount;
    /** One more than the number of the found state that is kept in the slot, 0 for none. */
    private final int[] slots = new int[SLOTS];

    private final boolean[] isEnding = new boolean[ENDINGS];

    /** The walk of kinds: each state on the way, with the threads to be tried, and the asleep. */
    private final long[] walkState = new long[TRAIL];
    private final int[] walkLeft = new int[TRAIL];
    private final int[] walkAsleep = new int[TRAIL];

    public ScheduleLab() {
        returnToFirst();
    }

    public int add(int thread, int op, int a) {
        if (!isThread(thread) || !isInstruction(op, a) || codeLength[thread] >= MOST_CODE) {
            return REFUSED;
        }
        codeLength[thread]++;
        write(thread, codeLength[thread] - 1, op, a);
        return codeLength[thread];
    }

    public int clear(int thread) {
        if (!isThread(thread)) {
            return REFUSED;
        }
        int had = codeLength[thread];
        codeLength[thread] = 0;
        returnToFirst();
        return had;
    }

    public boolean change(int thread, int k, int op, int a) {
        if (!isThread(thread) || !isInstruction(op, a) || k < 0 || k >= codeLength[thread]) {
            return false;
        }
        write(thread, k, op, a);
        return true;
    }

    public int go(int thread) {
        unpack(trail[steps]);
        if (!isThread(thread) || !isReady(thread) || steps >= MOST_STEPS) {
            return REFUSED;
        }
        advance(thread);
        steps++;
        trail[steps] = packed();
        return steps;
    }

    public int back() {
        if (steps == 0) {
            return REFUSED;
        }
        steps--;
        return steps;
    }

    public int now(int what) {
        if (what < 0 || what > READY_THREADS) {
            return REFUSED;
        }
        unpack(trail[steps]);
        if (what == READY_THREADS) {
            return readyThreads();
        }
        boolean isTaker = what >= TAKER && what < TAKER + LOCKS;
        return isTaker ? cell[what] - 1 : cell[what];
    }

    public int states() {
        return explore() ? foundCount : MANY;
    }

    public int endings() {
        return explore() ? markEndings() : MANY;
    }

    public int ending(int k) {
        if (!explore()) {
            return MANY;
        }
        markEndings();
        int lower = 0;
        for (int e = 0; e < ENDINGS; e++) {
            if (isEnding[e]) {
                if (lower == k) {
                    return e;
                }
                lower++;
            }
        }
        return REFUSED;
    }

    public int soonest(int what) {
        if (what < SEEK_BAD || what > SEEK_GOOD) {
            return REFUSED;
        }
        if (!explore()) {
            return MANY;
        }
        int goal = nearest(what);
        return goal < 0 ? NEVER : distance[goal];
    }

    public int step(int what, int k) {
        int length = soonest(what);
        if (length < 0) {
            return length;
        }
        if (k < 0 || k >= length) {
            return REFUSED;
        }
        int state = nearest(what);
        for (int last = length - 1; last > k; last--) {
            state = cameFrom[state];
        }
        return cameBy[state];
    }

    public int race(int v) {
        if (v < 0 || v >= VARIABLES) {
            return REFUSED;
        }
        if (!explore()) {
            return MANY;
        }
        for (int i = 0; i < foundCount; i++) {
            unpack(found[i]);
            if (isRaceOf(0, 1, v) || isRaceOf(0, 2, v) || isRaceOf(1, 2, v)) {
                return 1;
            }
        }
        return 0;
    }

    public int meet(int t, int i, int u, int j) {
        if (!isThread(t) || !isThread(u) || t == u || !isPlace(i) || !isPlace(j)) {
            return REFUSED;
        }
        if (!explore()) {
            return MANY;
        }
        int meetings = 0;
        for (int n = 0; n < foundCount; n++) {
            unpack(found[n]);
            if (cell[AT + t] == i && cell[AT + u] == j) {
                meetings++;
            }
        }
        return meetings;
    }

    /*
     * Of the runs that are alike only that one is walked to its end which has the lower thread
     * where they differ first: a thread that was tried in a state sleeps after the threads tried
     * later there, till a step touches its own, for till then its step could as well come before.
     */
    public int kinds() {
        unpack(trail[steps]);
        int count = enter(0, 0) ? 1 : 0;
        int depth = 0;
        for (int turn = 0; turn < MOST_TURNS && depth >= 0 && count <= MOST_KINDS; turn++) {
            if (walkLeft[depth] == 0 || depth >= MOST_STEPS) {
                depth--;
            } else {
                count += descend(depth) ? 1 : 0;
                depth++;
            }
        }
        return count > MOST_KINDS ? MANY : count;
    }

    private static boolean isThread(int thread) {
        return thread >= 0 && thread < THREADS;
    }

    private static boolean isPlace(int i) {
        return i >= 0 && i <= BEHIND;
    }

    private static boolean isOfVariable(int op) {
        return op >= LOAD && op <= INC;
    }

    private static boolean isOfLock(int op) {
        return op == LOCK || op == UNLOCK || op == WAIT || op == NOTIFY;
    }

    private static boolean isInstruction(int op, int a) {
        if (op < LOAD || op > NOTIFY || a < 0) {
            return false;
        }
        if (isOfVariable(op)) {
            return a < VARIABLES;
        }
        if (isOfLock(op)) {
            return a < LOCKS;
        }
        if (op == SKIP) {
            return a >= 1 && a <= MOST_SKIPPED;
        }
        return a < NUMBERS;
    }

    private void write(int thread, int k, int op, int a) {
        ops[thread * MOST_CODE + k] = op;
        args[thread * MOST_CODE + k] = a;
        returnToFirst();
    }

    private void returnToFirst() {
        for (int i = 0; i < CELLS; i++) {
            cell[i] = 0;
        }
        for (int t = 0; t < THREADS; t++) {
            place(t, 0);
        }
        steps = 0;
        trail[0] = packed();
    }

    /** All that is behind a code is one place, whatever the code's length. */
    private void place(int thread, int at) {
        cell[AT + thread] = at < codeLength[thread] ? at : BEHIND;
    }

    private long packed() {
        long state = 0;
        for (int i = CELLS - 1; i >= 0; i--) {
            state = (state << CELL_BITS) | cell[i];
        }
        return state;
    }

    private void unpack(long state) {
        long rest = state;
        for (int i = 0; i < CELLS; i++) {
            cell[i] = (int) (rest & CELL_MASK);
            rest = rest >>> CELL_BITS;
        }
    }

    private boolean hasEnded(int thread) {
        return cell[AT + thread] >= codeLength[thread];
    }

    private boolean isReady(int thread) {
        if (hasEnded(thread) || cell[WAITER + thread] == WAITING) {
            return false;
        }
        int here = thread * MOST_CODE + cell[AT + thread];
        boolean needsLock = ops[here] == LOCK || cell[WAITER + thread] == NOTIFIED;
        return !needsLock || cell[TAKER + args[here]] == NOBODY;
    }

    private int readyThreads() {
        int ready = 0;
        for (int t = 0; t < THREADS; t++) {
            if (isReady(t)) {
                ready |= 1 << t;
            }
        }
        return ready;
    }

    private boolean haveAllEnded() {
        return hasEnded(0) && hasEnded(1) && hasEnded(2);
    }

    /** A step of a thread that is ready, in the state at work. */
    private void advance(int thread) {
        int at = cell[AT + thread];
        int op = ops[thread * MOST_CODE + at];
        int a = args[thread * MOST_CODE + at];
        int next = at + 1;
        if (isOfVariable(op)) {
            useVariable(thread, op, a);
        } else if (op == WAIT) {
            next = useWait(thread, a) ? at + 1 : at;
        } else if (isOfLock(op)) {
            useLock(thread, op, a);
        } else if (op == SKIP) {
            next = cell[ACC + thread] == 0 ? at + 1 + a : at + 1;
        } else {
            useNumber(thread, op, a);
        }
        place(thread, next);
    }

    private void useVariable(int thread, int op, int v) {
        int acc = cell[ACC + thread];
        if (op == LOAD || op == SWAP) {
            cell[ACC + thread] = cell[v];
        }
        if (op == STORE || op == SWAP) {
            cell[v] = acc;
        }
        if (op == INC) {
            cell[v] = (cell[v] + 1) % NUMBERS;
        }
    }

    private void useNumber(int thread, int op, int a) {
        if (op == SET) {
            cell[ACC + thread] = a;
        } else if (op == ADD) {
            cell[ACC + thread] = (cell[ACC + thread] + a) % NUMBERS;
        } else if (op == CHECK && cell[ACC + thread] != a) {
            cell[BAD] = 1;
        }
    }

    private void useLock(int thread, int op, int lock) {
        if (op == LOCK) {
            cell[TAKER + lock] = thread + 1;
        } else if (op == UNLOCK && cell[TAKER + lock] == thread + 1) {
            cell[TAKER + lock] = NOBODY;
        } else if (op == NOTIFY) {
            notifyWaiters(lock);
        }
    }

    private void notifyWaiters(int lock) {
        for (int t = 0; t < THREADS; t++) {
            if (cell[WAITER + t] == WAITING && args[t * MOST_CODE + cell[AT + t]] == lock) {
                cell[WAITER + t] = NOTIFIED;
            }
        }
    }

    /** Whether the thread goes on: it stays at its WAIT if it begins to wait. */
    private boolean useWait(int thread, int lock) {
        if (cell[WAITER + thread] == NOTIFIED) {
            cell[WAITER + thread] = ACTIVE;
            cell[TAKER + lock] = thread + 1;
            return true;
        }
        if (cell[TAKER + lock] != thread + 1) {
            return true;
        }
        cell[TAKER + lock] = NOBODY;
        cell[WAITER + thread] = WAITING;
        return false;
    }

    /*
     * Finds the states that can come; false if there are too many. As they are looked at in the
     * order in which they were found, with the lower threads first, the way by which each was
     * found is the shortest one, and of several that with the lower thread where they differ.
     */
    private boolean explore() {
        for (int i = 0; i < SLOTS; i++) {
            slots[i] = 0;
        }
        foundCount = 0;
        keep(trail[steps], 0, 0, 0);
        for (int i = 0; i < MOST_STATES && i < foundCount; i++) {
            for (int t = 0; t < THREADS; t++) {
                unpack(found[i]);
                if (isReady(t)) {
                    advance(t);
                    long state = packed();
                    keep(state, i, t, distance[i] + 1);
                }
            }
        }
        return foundCount <= MOST_STATES;
    }

    /** Keeps a state unless it is kept already or there are MANY. */
    private void keep(long state, int from, int by, int far) {
        int slot = slotOf(state);
        if (slots[slot] != 0 || foundCount > MOST_STATES) {
            return;
        }
        found[foundCount] = state;
        cameFrom[foundCount] = from;
        cameBy[foundCount] = by;
        distance[foundCount] = far;
        foundCount++;
        slots[slot] = foundCount;
    }

    /** The slot of a state, or the free one where it belongs. */
    private int slotOf(long state) {
        int slot = (int) ((state * SPREAD) >>> SPREAD_SHIFT);
        for (int tries = 0; tries < SLOTS; tries++) {
            if (slots[slot] == 0 || found[slots[slot] - 1] == state) {
                return slot;
            }
            slot = (slot + 1) % SLOTS;
        }
        return slot;
    }

    /** Marks the endings of the found states, and counts the different ones. */
    private int markEndings() {
        for (int e = 0; e < ENDINGS; e++) {
            isEnding[e] = false;
        }
        int different = 0;
        for (int i = 0; i < foundCount; i++) {
            unpack(found[i]);
            if (readyThreads() == 0) {
                int e = endingHere();
                different += isEnding[e] ? 0 : 1;
                isEnding[e] = true;
            }
        }
        return different;
    }

    private int endingHere() {
        int variables = 0;
        for (int v = VARIABLES - 1; v >= 0; v--) {
            variables = variables * NUMBERS + cell[v];
        }
        int bad = cell[BAD] == 0 ? 0 : BAD_ENDING;
        int stuck = haveAllEnded() ? 0 : STUCK_ENDING;
        return variables + bad + stuck;
    }

    /** The number of the first found state that is sought, -1 if there is none. */
    private int nearest(int what) {
        for (int i = 0; i < foundCount; i++) {
            unpack(found[i]);
            if (isSought(what)) {
                return i;
            }
        }
        return -1;
    }

    private boolean isSought(int what) {
        if (what == SEEK_BAD) {
            return cell[BAD] != 0;
        }
        if (what == SEEK_STUCK) {
            return readyThreads() == 0 && !haveAllEnded();
        }
        return haveAllEnded() && (what == SEEK_DONE || cell[BAD] == 0);
    }

    private boolean isRaceOf(int t, int u, int v) {
        if (hasEnded(t) || hasEnded(u)) {
            return false;
        }
        int here = t * MOST_CODE + cell[AT + t];
        return isOfVariable(ops[here]) && args[here] == v && doTouch(t, u);
    }

    /** Whether the instructions touch at which two threads are that have not ended. */
    private boolean doTouch(int t, int u) {
        int one = t * MOST_CODE + cell[AT + t];
        int other = u * MOST_CODE + cell[AT + u];
        if (args[one] != args[other]) {
            return false;
        }
        if (isOfLock(ops[one])) {
            return isOfLock(ops[other]);
        }
        boolean sameVariable = isOfVariable(ops[one]) && isOfVariable(ops[other]);
        return sameVariable && (ops[one] != LOAD || ops[other] != LOAD);
    }

    /** Goes from a state of the walk on with the lowest thread left; whether a run ends there. */
    private boolean descend(int depth) {
        unpack(walkState[depth]);
        int thread = lowestOf(walkLeft[depth]);
        int asleep = 0;
        for (int u = 0; u < THREADS; u++) {
            if ((walkAsleep[depth] >> u & 1) != 0 && !doTouch(thread, u)) {
                asleep |= 1 << u;
            }
        }
        walkLeft[depth] &= ~(1 << thread);
        walkAsleep[depth] |= 1 << thread;
        advance(thread);
        return enter(depth + 1, asleep);
    }

    /** Takes the state at work into the walk; whether a run ends there. */
    private boolean enter(int depth, int asleep) {
        int ready = readyThreads();
        walkState[depth] = packed();
        walkAsleep[depth] = asleep;
        walkLeft[depth] = ready & ~asleep;
        return ready == 0;
    }

    private static int lowestOf(int threads) {
        for (int t = 0; t < THREADS - 1; t++) {
            if ((threads >> t & 1) != 0) {
                return t;
            }
        }
        return THREADS - 1;
    }
}
