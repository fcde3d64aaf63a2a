public final class LeftRightMap {
    public static final int MAX_KEY = 9999;
    public static final int MAX_VALUE = 999999;

    public static final int NONE = -1;
    public static final int ABSENT = -1;
    public static final int FULL = -2;
    public static final int PENDING = -3;
    public static final int BAD = -4;

    public static final int R_IDLE = 0;
    public static final int R_READ_VERSION = 1;
    public static final int R_ARRIVE = 2;
    public static final int R_READ_SIDE = 3;
    public static final int R_LOOKUP = 4;
    public static final int R_DEPART = 5;
    public static final int R_DONE = 6;

    public static final int W_IDLE = 0;
    public static final int W_LOCK = 1;
    public static final int W_APPLY_IDLE = 2;
    public static final int W_FLIP = 3;
    public static final int W_DRAIN_NEXT = 4;
    public static final int W_TOGGLE = 5;
    public static final int W_DRAIN_PREV = 6;
    public static final int W_APPLY_OLD = 7;
    public static final int W_DONE = 8;

    public static final int KIND_NONE = 0;
    public static final int KIND_PUT = 1;
    public static final int KIND_REMOVE = 2;

    public static final int STEP_NONE = 0;
    public static final int STEP_MOVED = 1;
    public static final int STEP_WAITED = 2;

    public static final int FIELD_PHASE = 0;
    public static final int FIELD_KEY = 1;
    public static final int FIELD_RESULT = 2;
    public static final int FIELD_VERSION = 3;
    public static final int FIELD_SIDE = 4;
    public static final int FIELD_VALUE = 5;
    public static final int FIELD_KIND = 6;

    public static final int G_LEFT_RIGHT = 0;
    public static final int G_VERSION = 1;
    public static final int G_INDICATOR0 = 2;
    public static final int G_INDICATOR1 = 3;
    public static final int G_LOCK = 4;
    public static final int G_SIZE = 5;
    public static final int G_CURSOR = 6;
    public static final int G_STEPS = 7;
    public static final int G_CAPACITY = 8;
    public static final int G_READERS = 9;
    public static final int G_WRITERS = 10;

    private static final int MIN_CAPACITY = 4;
    private static final int MAX_CAPACITY = 16;
    private static final int MIN_READERS = 1;
    private static final int MAX_READERS = 8;
    private static final int MIN_WRITERS = 1;
    private static final int MAX_WRITERS = 4;
    private static final int MAX_RUN = 64;
    private static final int SIDES = 2;
    private static final int SLOTS = SIDES * MAX_CAPACITY;
    private static final int VERSIONS = 2;

    private final int capacity;
    private final int readers;
    private final int writers;

    // Side s owns the slots from s * MAX_CAPACITY on, and the first size[s] of them are in use.
    private final int[] slotKey = new int[SLOTS];
    private final int[] slotValue = new int[SLOTS];
    private final int[] size = new int[SIDES];

    private int leftRight = 0;
    private int versionIndex = 0;
    private final int[] indicator = new int[VERSIONS];
    private int lock = NONE;
    private int cursor = 0;
    private int steps = 0;

    private final int[] readerPhase = new int[MAX_READERS];
    private final int[] readerKey = new int[MAX_READERS];
    private final int[] readerResult = new int[MAX_READERS];
    private final int[] readerVersion = new int[MAX_READERS];
    private final int[] readerSide = new int[MAX_READERS];

    private final int[] writerPhase = new int[MAX_WRITERS];
    private final int[] writerKind = new int[MAX_WRITERS];
    private final int[] writerKey = new int[MAX_WRITERS];
    private final int[] writerValue = new int[MAX_WRITERS];
    private final int[] writerResult = new int[MAX_WRITERS];
    private final int[] writerVersion = new int[MAX_WRITERS];
    private final int[] writerSide = new int[MAX_WRITERS];

    public LeftRightMap(int capacity, int readers, int writers) {
        this.capacity = clamp(capacity, MIN_CAPACITY, MAX_CAPACITY);
        this.readers = clamp(readers, MIN_READERS, MAX_READERS);
        this.writers = clamp(writers, MIN_WRITERS, MAX_WRITERS);
        for (int r = 0; r < MAX_READERS; r++) {
            setReader(r, R_IDLE, NONE);
        }
        for (int w = 0; w < MAX_WRITERS; w++) {
            setWriter(w, W_IDLE, KIND_NONE, NONE, NONE);
        }
    }

    public boolean startLookup(int r, int key) {
        if (!isReader(r) || isReaderActive(r) || !isKey(key)) {
            return false;
        }
        setReader(r, R_READ_VERSION, key);
        return true;
    }

    public boolean startPut(int w, int key, int value) {
        if (!isWriter(w) || isWriterActive(w) || !isKey(key) || !isValue(value)) {
            return false;
        }
        setWriter(w, W_LOCK, KIND_PUT, key, value);
        return true;
    }

    public boolean startRemove(int w, int key) {
        if (!isWriter(w) || isWriterActive(w) || !isKey(key)) {
            return false;
        }
        setWriter(w, W_LOCK, KIND_REMOVE, key, NONE);
        return true;
    }

    public int step(int agent) {
        if (!isActive(agent)) {
            return STEP_NONE;
        }
        steps = steps + 1;
        if (agent < readers) {
            stepReader(agent);
            return STEP_MOVED;
        }
        return stepWriter(agent - readers);
    }

    public int run(int n) {
        int most = clamp(n, 0, MAX_RUN);
        for (int done = 0; done < most; done++) {
            int agent = nextActive();
            if (agent == NONE) {
                return done;
            }
            step(agent);
            cursor = wrapAgent(agent + 1);
        }
        return most;
    }

    public int peek(int key) {
        if (!isKey(key)) {
            return BAD;
        }
        return valueIn(leftRight, key);
    }

    public int instance(int side, int key) {
        if (side < 0 || side >= SIDES || !isKey(key)) {
            return BAD;
        }
        return valueIn(side, key);
    }

    public int reader(int r, int field) {
        if (!isReader(r)) {
            return BAD;
        }
        switch (field) {
            case FIELD_PHASE:
                return readerPhase[r];
            case FIELD_KEY:
                return readerKey[r];
            case FIELD_RESULT:
                return readerResult[r];
            case FIELD_VERSION:
                return readerVersion[r];
            case FIELD_SIDE:
                return readerSide[r];
            default:
                return BAD;
        }
    }

    public int writer(int w, int field) {
        if (!isWriter(w)) {
            return BAD;
        }
        switch (field) {
            case FIELD_PHASE:
                return writerPhase[w];
            case FIELD_KEY:
                return writerKey[w];
            case FIELD_RESULT:
                return writerResult[w];
            case FIELD_VERSION:
                return writerVersion[w];
            case FIELD_SIDE:
                return writerSide[w];
            case FIELD_VALUE:
                return writerValue[w];
            case FIELD_KIND:
                return writerKind[w];
            default:
                return BAD;
        }
    }

    public int global(int field) {
        switch (field) {
            case G_LEFT_RIGHT:
                return leftRight;
            case G_VERSION:
                return versionIndex;
            case G_INDICATOR0:
                return indicator[0];
            case G_INDICATOR1:
                return indicator[1];
            case G_LOCK:
                return lock;
            case G_SIZE:
                return size[leftRight];
            case G_CURSOR:
                return cursor;
            case G_STEPS:
                return steps;
            case G_CAPACITY:
                return capacity;
            case G_READERS:
                return readers;
            case G_WRITERS:
                return writers;
            default:
                return BAD;
        }
    }

    private static int clamp(int number, int least, int greatest) {
        if (number < least) {
            return least;
        }
        return number > greatest ? greatest : number;
    }

    private static boolean isKey(int key) {
        return key >= 0 && key <= MAX_KEY;
    }

    private static boolean isValue(int value) {
        return value >= 0 && value <= MAX_VALUE;
    }

    private boolean isReader(int r) {
        return r >= 0 && r < readers;
    }

    private boolean isWriter(int w) {
        return w >= 0 && w < writers;
    }

    private boolean isReaderActive(int r) {
        return readerPhase[r] != R_IDLE && readerPhase[r] != R_DONE;
    }

    private boolean isWriterActive(int w) {
        return writerPhase[w] != W_IDLE && writerPhase[w] != W_DONE;
    }

    private boolean isActive(int agent) {
        if (agent < 0 || agent >= readers + writers) {
            return false;
        }
        return agent < readers ? isReaderActive(agent) : isWriterActive(agent - readers);
    }

    private int nextActive() {
        for (int i = 0; i < readers + writers; i++) {
            int agent = wrapAgent(cursor + i);
            if (isActive(agent)) {
                return agent;
            }
        }
        return NONE;
    }

    // Callers pass numbers below twice the count of agents, so one subtraction does the mod.
    private int wrapAgent(int number) {
        int agents = readers + writers;
        return number < agents ? number : number - agents;
    }

    private void setReader(int r, int phase, int key) {
        readerPhase[r] = phase;
        readerKey[r] = key;
        readerResult[r] = PENDING;
        readerVersion[r] = NONE;
        readerSide[r] = NONE;
    }

    private void setWriter(int w, int phase, int kind, int key, int value) {
        writerPhase[w] = phase;
        writerKind[w] = kind;
        writerKey[w] = key;
        writerValue[w] = value;
        writerResult[w] = PENDING;
        writerVersion[w] = NONE;
        writerSide[w] = NONE;
    }

    // Every phase that uses a version or a side as an index comes after the phase that
    // sets it to 0 or 1, so none of them is NONE where it is used.
    private void stepReader(int r) {
        switch (readerPhase[r]) {
            case R_READ_VERSION:
                readerVersion[r] = versionIndex;
                readerPhase[r] = R_ARRIVE;
                break;
            case R_ARRIVE:
                indicator[readerVersion[r]]++;
                readerPhase[r] = R_READ_SIDE;
                break;
            case R_READ_SIDE:
                readerSide[r] = leftRight;
                readerPhase[r] = R_LOOKUP;
                break;
            case R_LOOKUP:
                readerResult[r] = valueIn(readerSide[r], readerKey[r]);
                readerPhase[r] = R_DEPART;
                break;
            case R_DEPART:
                indicator[readerVersion[r]]--;
                readerPhase[r] = R_DONE;
                break;
            default:
                break;
        }
    }

    private int stepWriter(int w) {
        switch (writerPhase[w]) {
            case W_LOCK:
                return takeLock(w);
            case W_APPLY_IDLE:
                return applyIdle(w);
            case W_FLIP:
                leftRight = writerSide[w];
                writerPhase[w] = W_DRAIN_NEXT;
                return STEP_MOVED;
            case W_DRAIN_NEXT:
                writerVersion[w] = versionIndex;
                return drain(w, 1 - versionIndex, W_TOGGLE);
            case W_TOGGLE:
                versionIndex = 1 - writerVersion[w];
                writerPhase[w] = W_DRAIN_PREV;
                return STEP_MOVED;
            case W_DRAIN_PREV:
                return drain(w, writerVersion[w], W_APPLY_OLD);
            case W_APPLY_OLD:
                return applyOld(w);
            default:
                return STEP_NONE;
        }
    }

    private int takeLock(int w) {
        if (lock != NONE) {
            return STEP_WAITED;
        }
        lock = w;
        writerPhase[w] = W_APPLY_IDLE;
        return STEP_MOVED;
    }

    private int applyIdle(int w) {
        int side = 1 - leftRight;
        writerSide[w] = side;
        int result = applyUpdate(w, side);
        writerResult[w] = result;
        if (result == FULL) {
            finish(w);
        } else {
            writerPhase[w] = W_FLIP;
        }
        return STEP_MOVED;
    }

    private int applyOld(int w) {
        applyUpdate(w, 1 - writerSide[w]);
        finish(w);
        return STEP_MOVED;
    }

    private void finish(int w) {
        lock = NONE;
        writerPhase[w] = W_DONE;
    }

    private int drain(int w, int version, int nextPhase) {
        if (indicator[version] != 0) {
            return STEP_WAITED;
        }
        writerPhase[w] = nextPhase;
        return STEP_MOVED;
    }

    private int applyUpdate(int w, int side) {
        int slot = slotOf(side, writerKey[w]);
        if (writerKind[w] == KIND_REMOVE) {
            return slot == NONE ? ABSENT : removeSlot(side, slot);
        }
        if (slot == NONE) {
            return addKey(side, writerKey[w], writerValue[w]);
        }
        int old = slotValue[slot];
        slotValue[slot] = writerValue[w];
        return old;
    }

    private int slotOf(int side, int key) {
        int first = side * MAX_CAPACITY;
        int end = first + size[side];
        for (int slot = first; slot < end; slot++) {
            if (slotKey[slot] == key) {
                return slot;
            }
        }
        return NONE;
    }

    private int valueIn(int side, int key) {
        int slot = slotOf(side, key);
        return slot == NONE ? ABSENT : slotValue[slot];
    }

    private int addKey(int side, int key, int value) {
        if (size[side] >= capacity) {
            return FULL;
        }
        int free = side * MAX_CAPACITY + size[side];
        slotKey[free] = key;
        slotValue[free] = value;
        size[side]++;
        return ABSENT;
    }

    // The last key in use moves into the gap, so that the slots in use stay together.
    private int removeSlot(int side, int slot) {
        int old = slotValue[slot];
        size[side]--;
        int last = side * MAX_CAPACITY + size[side];
        slotKey[slot] = slotKey[last];
        slotValue[slot] = slotValue[last];
        return old;
    }
}
