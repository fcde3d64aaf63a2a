/** Promise 5: step, one phase after the other, with all that a step changes and nothing else. */
public final class StepTest {
    private static final int MOVED = LeftRightMap.STEP_MOVED;
    private static final int WAITED = LeftRightMap.STEP_WAITED;
    private static final Due DUE = new Due();

    private static LeftRightMap x;
    private static int steps;

    public static void main(String[] args) {
        noStepOfNobody();
        readerPhases();
        putOfNewKey();
        putOfOldKey();
        putWhenFull();
        putOfOldKeyWhenFull();
        removeOfOldKey();
        removeOfAbsentKey();
        removedKeysLeaveRoom();
        waitsForLock();
        waitsForNextReaders();
        waitsForPreviousReaders();
        DUE.end();
    }

    private static void fresh(int capacity, int readers, int writers) {
        x = new LeftRightMap(capacity, readers, writers);
        watch();
    }

    private static void watch() {
        steps = x.global(LeftRightMap.G_STEPS);
        DUE.watch(x);
    }

    /** One step of an active agent, which counts itself, changes what is named and nothing else. */
    private static void step(String phase, int agent, int answer, Object... namesAndValues) {
        DUE.due("step(" + agent + ") in " + phase, x.step(agent), answer);
        steps++;
        Object[] all = new Object[namesAndValues.length + 2];
        System.arraycopy(namesAndValues, 0, all, 0, namesAndValues.length);
        all[all.length - 2] = "steps";
        all[all.length - 1] = steps;
        DUE.changes("step(" + agent + ") in " + phase, all);
    }

    private static void noStep(int agent) {
        DUE.due("step(" + agent + ")", x.step(agent), LeftRightMap.STEP_NONE);
        DUE.changes("step(" + agent + ")");
    }

    private static void put(int w, int key, int value) {
        DUE.due("startPut", x.startPut(w, key, value), true);
        watch();
    }

    private static void remove(int w, int key) {
        DUE.due("startRemove", x.startRemove(w, key), true);
        watch();
    }

    private static void lookup(int r, int key) {
        DUE.due("startLookup", x.startLookup(r, key), true);
        watch();
    }

    private static void noStepOfNobody() {
        fresh(4, 2, 2);
        int[] agents = {0, 1, 2, 3, -1, 4, 5, Integer.MIN_VALUE, Integer.MAX_VALUE};
        for (int agent : agents) {
            noStep(agent);
        }
        x.startLookup(0, 1);
        x.startPut(1, 1, 1);
        watch();
        int[] others = {1, 2, -1, 4, 5, Integer.MIN_VALUE, Integer.MAX_VALUE};
        for (int agent : others) {
            noStep(agent);
        }
        x.run(64);
        watch();
        for (int agent : agents) {
            noStep(agent);
        }
    }

    private static void readerPhases() {
        fresh(4, 2, 1);
        lookup(0, 7);
        step("R_READ_VERSION", 0, MOVED, "r0 version", 0, "r0 phase", LeftRightMap.R_ARRIVE);
        step("R_ARRIVE", 0, MOVED, "indicator0", 1, "r0 phase", LeftRightMap.R_READ_SIDE);
        step("R_READ_SIDE", 0, MOVED, "r0 side", 0, "r0 phase", LeftRightMap.R_LOOKUP);
        step("R_LOOKUP", 0, MOVED, "r0 result", LeftRightMap.ABSENT, "r0 phase", LeftRightMap.R_DEPART);
        step("R_DEPART", 0, MOVED, "indicator0", 0, "r0 phase", LeftRightMap.R_DONE);
        noStep(0);
        put(0, 7, 70);
        x.run(7);
        lookup(1, 7);
        step("R_READ_VERSION", 1, MOVED, "r1 version", 1, "r1 phase", LeftRightMap.R_ARRIVE);
        step("R_ARRIVE", 1, MOVED, "indicator1", 1, "r1 phase", LeftRightMap.R_READ_SIDE);
        step("R_READ_SIDE", 1, MOVED, "r1 side", 1, "r1 phase", LeftRightMap.R_LOOKUP);
        lookup(0, 7);
        step("R_READ_VERSION", 0, MOVED, "r0 version", 1, "r0 phase", LeftRightMap.R_ARRIVE);
        step("R_ARRIVE", 0, MOVED, "indicator1", 2, "r0 phase", LeftRightMap.R_READ_SIDE);
        step("R_LOOKUP", 1, MOVED, "r1 result", 70, "r1 phase", LeftRightMap.R_DEPART);
        step("R_DEPART", 1, MOVED, "indicator1", 1, "r1 phase", LeftRightMap.R_DONE);
        noStep(1);
    }

    private static void putOfNewKey() {
        fresh(4, 1, 2);
        put(1, 7, 70);
        step("W_LOCK", 2, MOVED, "lock", 1, "w1 phase", LeftRightMap.W_APPLY_IDLE);
        step("W_APPLY_IDLE", 2, MOVED, "w1 side", 1, "i1 7", 70, "w1 result", LeftRightMap.ABSENT,
            "w1 phase", LeftRightMap.W_FLIP);
        step("W_FLIP", 2, MOVED, "leftRight", 1, "size", 1, "peek 7", 70,
            "w1 phase", LeftRightMap.W_DRAIN_NEXT);
        step("W_DRAIN_NEXT", 2, MOVED, "w1 version", 0, "w1 phase", LeftRightMap.W_TOGGLE);
        step("W_TOGGLE", 2, MOVED, "versionIndex", 1, "w1 phase", LeftRightMap.W_DRAIN_PREV);
        step("W_DRAIN_PREV", 2, MOVED, "w1 phase", LeftRightMap.W_APPLY_OLD);
        step("W_APPLY_OLD", 2, MOVED, "i0 7", 70, "lock", LeftRightMap.NONE, "w1 phase", LeftRightMap.W_DONE);
        noStep(2);
    }

    private static void putOfOldKey() {
        fresh(4, 1, 1);
        put(0, 7, 70);
        x.run(64);
        put(0, 7, 0);
        step("W_LOCK", 1, MOVED, "lock", 0, "w0 phase", LeftRightMap.W_APPLY_IDLE);
        step("W_APPLY_IDLE", 1, MOVED, "w0 side", 0, "i0 7", 0, "w0 result", 70,
            "w0 phase", LeftRightMap.W_FLIP);
        step("W_FLIP", 1, MOVED, "leftRight", 0, "peek 7", 0, "w0 phase", LeftRightMap.W_DRAIN_NEXT);
        step("W_DRAIN_NEXT", 1, MOVED, "w0 version", 1, "w0 phase", LeftRightMap.W_TOGGLE);
        step("W_TOGGLE", 1, MOVED, "versionIndex", 0, "w0 phase", LeftRightMap.W_DRAIN_PREV);
        step("W_DRAIN_PREV", 1, MOVED, "w0 phase", LeftRightMap.W_APPLY_OLD);
        step("W_APPLY_OLD", 1, MOVED, "i1 7", 0, "lock", LeftRightMap.NONE, "w0 phase", LeftRightMap.W_DONE);
    }

    private static void fill(int capacity) {
        fresh(capacity, 1, 2);
        for (int i = 0; i < capacity; i++) {
            put(0, 9999 - i, 100 + i);
            DUE.due("run(64)", x.run(64), 7);
            DUE.due("writer(0, FIELD_RESULT)", x.writer(0, LeftRightMap.FIELD_RESULT), LeftRightMap.ABSENT);
        }
        DUE.due("global(G_SIZE)", x.global(LeftRightMap.G_SIZE), capacity);
    }

    private static void putWhenFull() {
        for (int capacity = 4; capacity <= 16; capacity++) {
            fill(capacity);
            int side = 1 - x.global(LeftRightMap.G_LEFT_RIGHT);
            put(1, 5, 50);
            step("W_LOCK", 2, MOVED, "lock", 1, "w1 phase", LeftRightMap.W_APPLY_IDLE);
            step("W_APPLY_IDLE", 2, MOVED, "w1 side", side, "w1 result", LeftRightMap.FULL,
                "lock", LeftRightMap.NONE, "w1 phase", LeftRightMap.W_DONE);
            noStep(2);
        }
    }

    private static void putOfOldKeyWhenFull() {
        for (int capacity = 4; capacity <= 16; capacity += 12) {
            fill(capacity);
            put(1, 9999 - capacity + 1, 999999);
            DUE.due("run(64)", x.run(64), 7);
            DUE.due("writer(1, FIELD_RESULT)", x.writer(1, LeftRightMap.FIELD_RESULT), 99 + capacity);
            DUE.due("instance(0, last key)", x.instance(0, 9999 - capacity + 1), 999999);
            DUE.due("instance(1, last key)", x.instance(1, 9999 - capacity + 1), 999999);
        }
    }

    private static void removeOfOldKey() {
        fresh(4, 1, 1);
        for (int key = 1; key <= 3; key++) {
            put(0, key, 10 * key);
            x.run(64);
        }
        remove(0, 1);
        step("W_LOCK", 1, MOVED, "lock", 0, "w0 phase", LeftRightMap.W_APPLY_IDLE);
        step("W_APPLY_IDLE", 1, MOVED, "w0 side", 0, "i0 1", State.GONE, "w0 result", 10,
            "w0 phase", LeftRightMap.W_FLIP);
        step("W_FLIP", 1, MOVED, "leftRight", 0, "size", 2, "peek 1", State.GONE,
            "w0 phase", LeftRightMap.W_DRAIN_NEXT);
        step("W_DRAIN_NEXT", 1, MOVED, "w0 version", 1, "w0 phase", LeftRightMap.W_TOGGLE);
        step("W_TOGGLE", 1, MOVED, "versionIndex", 0, "w0 phase", LeftRightMap.W_DRAIN_PREV);
        step("W_DRAIN_PREV", 1, MOVED, "w0 phase", LeftRightMap.W_APPLY_OLD);
        step("W_APPLY_OLD", 1, MOVED, "i1 1", State.GONE, "lock", LeftRightMap.NONE,
            "w0 phase", LeftRightMap.W_DONE);
    }

    private static void removeOfAbsentKey() {
        fresh(4, 1, 1);
        remove(0, 0);
        step("W_LOCK", 1, MOVED, "lock", 0, "w0 phase", LeftRightMap.W_APPLY_IDLE);
        step("W_APPLY_IDLE", 1, MOVED, "w0 side", 1, "w0 result", LeftRightMap.ABSENT,
            "w0 phase", LeftRightMap.W_FLIP);
        step("W_FLIP", 1, MOVED, "leftRight", 1, "w0 phase", LeftRightMap.W_DRAIN_NEXT);
        step("W_DRAIN_NEXT", 1, MOVED, "w0 version", 0, "w0 phase", LeftRightMap.W_TOGGLE);
        step("W_TOGGLE", 1, MOVED, "versionIndex", 1, "w0 phase", LeftRightMap.W_DRAIN_PREV);
        step("W_DRAIN_PREV", 1, MOVED, "w0 phase", LeftRightMap.W_APPLY_OLD);
        step("W_APPLY_OLD", 1, MOVED, "lock", LeftRightMap.NONE, "w0 phase", LeftRightMap.W_DONE);
    }

    private static void removedKeysLeaveRoom() {
        fill(4);
        remove(0, 9997);
        x.run(64);
        DUE.due("global(G_SIZE)", x.global(LeftRightMap.G_SIZE), 3);
        put(1, 9997, 5);
        DUE.due("run(64)", x.run(64), 7);
        DUE.due("writer(1, FIELD_RESULT)", x.writer(1, LeftRightMap.FIELD_RESULT), LeftRightMap.ABSENT);
        DUE.due("global(G_SIZE)", x.global(LeftRightMap.G_SIZE), 4);
        for (int i = 0; i < 4; i++) {
            int value = i == 2 ? 5 : 100 + i;
            DUE.due("instance(0, " + (9999 - i) + ")", x.instance(0, 9999 - i), value);
            DUE.due("instance(1, " + (9999 - i) + ")", x.instance(1, 9999 - i), value);
        }
    }

    private static void waitsForLock() {
        fresh(4, 1, 3);
        x.startPut(0, 1, 10);
        x.startPut(2, 2, 20);
        watch();
        step("W_LOCK", 3, MOVED, "lock", 2, "w2 phase", LeftRightMap.W_APPLY_IDLE);
        for (int i = 0; i < 6; i++) {
            step("W_LOCK with the lock held", 1, WAITED);
            x.step(3);
            watch();
        }
        step("W_LOCK with the lock free", 1, MOVED, "lock", 0, "w0 phase", LeftRightMap.W_APPLY_IDLE);
    }

    /** A reader that read version 0 joins its counter only after the versions were toggled. */
    private static void waitsForNextReaders() {
        fresh(4, 1, 1);
        x.startLookup(0, 7);
        x.step(0);
        x.startPut(0, 7, 70);
        for (int i = 0; i < 7; i++) {
            x.step(1);
        }
        x.step(0);
        x.step(0);
        DUE.due("global(G_INDICATOR0)", x.global(LeftRightMap.G_INDICATOR0), 1);
        x.startPut(0, 7, 71);
        for (int i = 0; i < 3; i++) {
            x.step(1);
        }
        watch();
        step("W_DRAIN_NEXT with a reader", 1, WAITED, "w0 version", 1);
        step("W_DRAIN_NEXT with a reader", 1, WAITED);
        step("R_LOOKUP", 0, MOVED, "r0 result", 70, "r0 phase", LeftRightMap.R_DEPART);
        step("W_DRAIN_NEXT with a reader", 1, WAITED);
        step("R_DEPART", 0, MOVED, "indicator0", 0, "r0 phase", LeftRightMap.R_DONE);
        step("W_DRAIN_NEXT", 1, MOVED, "w0 phase", LeftRightMap.W_TOGGLE);
    }

    private static void waitsForPreviousReaders() {
        fresh(4, 2, 1);
        x.startLookup(0, 7);
        x.step(0);
        x.step(0);
        x.step(0);
        x.startPut(0, 7, 70);
        for (int i = 0; i < 3; i++) {
            x.step(2);
        }
        watch();
        step("W_DRAIN_NEXT", 2, MOVED, "w0 version", 0, "w0 phase", LeftRightMap.W_TOGGLE);
        step("W_TOGGLE", 2, MOVED, "versionIndex", 1, "w0 phase", LeftRightMap.W_DRAIN_PREV);
        step("W_DRAIN_PREV with a reader", 2, WAITED);
        lookup(1, 7);
        step("R_READ_VERSION", 1, MOVED, "r1 version", 1, "r1 phase", LeftRightMap.R_ARRIVE);
        step("R_ARRIVE", 1, MOVED, "indicator1", 1, "r1 phase", LeftRightMap.R_READ_SIDE);
        step("R_READ_SIDE", 1, MOVED, "r1 side", 1, "r1 phase", LeftRightMap.R_LOOKUP);
        step("R_LOOKUP", 0, MOVED, "r0 result", LeftRightMap.ABSENT, "r0 phase", LeftRightMap.R_DEPART);
        step("W_DRAIN_PREV with a reader", 2, WAITED);
        step("R_DEPART", 0, MOVED, "indicator0", 0, "r0 phase", LeftRightMap.R_DONE);
        step("W_DRAIN_PREV", 2, MOVED, "w0 phase", LeftRightMap.W_APPLY_OLD);
        step("W_APPLY_OLD", 2, MOVED, "i0 7", 70, "lock", LeftRightMap.NONE, "w0 phase", LeftRightMap.W_DONE);
        step("R_LOOKUP", 1, MOVED, "r1 result", 70, "r1 phase", LeftRightMap.R_DEPART);
    }
}
