/** Promise 5: the steps of a writer that move, with puts and removes on instances of every fullness. */
public final class WriterStepTest {
    private static final int MOVED = Stepping.MOVED;
    private static final Due DUE = new Due();

    public static void main(String[] args) {
        DUE.test("W_LOCK: if lock is NONE: lock := w (the writer number, not the agent number)",
            WriterStepTest::takesTheLock);
        DUE.test("W_APPLY_IDLE: side := 1 - leftRight", WriterStepTest::choosesTheIdleSide);
        DUE.test("put, key present: result := its old value; its value := value", WriterStepTest::putOfPresentKey);
        DUE.test("put, key present, on an instance that holds capacity keys", WriterStepTest::putOfPresentKeyWhenFull);
        DUE.test("put, key absent, the instance holds capacity keys", WriterStepTest::putOfAbsentKeyWhenFull);
        DUE.test("put, key absent, fewer keys: one fewer", WriterStepTest::putOfLastKeyThatFits);
        DUE.test("put, key absent, fewer keys: none", WriterStepTest::putIntoEmpty);
        DUE.test("put: room again after a remove", WriterStepTest::putAfterRemoveWhenFull);
        DUE.test("put: the least and greatest key and value", WriterStepTest::putOfLeastAndGreatest);
        DUE.test("remove: result := the old value of key; key is removed if present",
            WriterStepTest::removeOfPresentKey);
        DUE.test("remove: any key of an instance that holds capacity keys", WriterStepTest::removeWhenFull);
        DUE.test("remove: the only key", WriterStepTest::removeOfOnlyKey);
        DUE.test("remove: or ABSENT if it is absent, the instance empty", WriterStepTest::removeFromEmpty);
        DUE.test("remove: or ABSENT if it is absent, other keys there", WriterStepTest::removeOfAbsentKey);
        DUE.test("remove: or ABSENT if it is absent, the instance full", WriterStepTest::removeOfAbsentKeyWhenFull);
        DUE.test("Unless the result is FULL, phase := W_FLIP", WriterStepTest::fullEndsAtOnce);
        DUE.test("W_FLIP: leftRight := side", WriterStepTest::flips);
        DUE.test("W_TOGGLE: versionIndex := 1 - version", WriterStepTest::toggles);
        DUE.test("W_APPLY_OLD: result is not changed; lock := NONE", WriterStepTest::appliesToTheOldSide);
        DUE.test("W_APPLY_OLD: so here the update always has room", WriterStepTest::applyOldHasRoom);
        DUE.test("Whenever lock is NONE the two instances hold the same keys with the same values",
            WriterStepTest::alikeWhenTheLockIsFree);
        DUE.end();
    }

    /**
     * All seven steps of writer 0 (agent 1): the key has the value first on the idle side, with the flip for
     * new readers, at last on the old side, and nothing else changes. State.GONE stands for no value.
     */
    private static void wholeWrite(Stepping s, int key, int result, int value, int sizeAfter) {
        int old = s.x.global(LeftRightMap.G_LEFT_RIGHT);
        int idle = 1 - old;
        int version = s.x.global(LeftRightMap.G_VERSION);
        s.step("W_LOCK", 1, MOVED, "lock", 0, "w0 phase", LeftRightMap.W_APPLY_IDLE);
        s.step("W_APPLY_IDLE", 1, MOVED, "w0 side", idle, "w0 result", result, "i" + idle + " " + key, value,
            "w0 phase", LeftRightMap.W_FLIP);
        s.step("W_FLIP", 1, MOVED, "leftRight", idle, "peek " + key, value, "size", sizeAfter,
            "w0 phase", LeftRightMap.W_DRAIN_NEXT);
        s.step("W_DRAIN_NEXT", 1, MOVED, "w0 version", version, "w0 phase", LeftRightMap.W_TOGGLE);
        s.step("W_TOGGLE", 1, MOVED, "versionIndex", 1 - version, "w0 phase", LeftRightMap.W_DRAIN_PREV);
        s.step("W_DRAIN_PREV", 1, MOVED, "w0 phase", LeftRightMap.W_APPLY_OLD);
        s.step("W_APPLY_OLD", 1, MOVED, "i" + old + " " + key, value, "lock", LeftRightMap.NONE,
            "w0 phase", LeftRightMap.W_DONE);
        s.noStep(1);
    }

    private static void put(Stepping s, int key, int value, int result, int sizeAfter) {
        s.put(0, key, value);
        wholeWrite(s, key, result, value, sizeAfter);
    }

    private static void remove(Stepping s, int key, int result, int sizeAfter) {
        s.remove(0, key);
        wholeWrite(s, key, result, State.GONE, sizeAfter);
    }

    /** Writer 0 is agent 1, and the keys 0 to count - 1 have the values 100 + key. */
    private static Stepping filled(int capacity, int count) {
        LeftRightMap x = new LeftRightMap(capacity, 1, 2);
        Drive.fill(x, count);
        return new Stepping(DUE, x);
    }

    private static void takesTheLock() {
        for (int w = 0; w < 4; w++) {
            Stepping s = new Stepping(DUE, new LeftRightMap(4, 8, 4));
            s.remove(w, 3);
            s.step("W_LOCK", 8 + w, MOVED, "lock", w, "w" + w + " phase", LeftRightMap.W_APPLY_IDLE);
        }
    }

    private static void choosesTheIdleSide() {
        for (int puts = 0; puts < 4; puts++) {
            Stepping s = filled(8, puts);
            s.put(0, 50, 5);
            s.step("W_LOCK", 1, MOVED, "lock", 0, "w0 phase", LeftRightMap.W_APPLY_IDLE);
            int side = 1 - puts % 2;
            s.step("W_APPLY_IDLE", 1, MOVED, "w0 side", side, "w0 result", LeftRightMap.ABSENT,
                "i" + side + " 50", 5, "w0 phase", LeftRightMap.W_FLIP);
        }
    }

    private static void putOfPresentKey() {
        Stepping s = filled(4, 3);
        put(s, 0, 7, 100, 3);
        put(s, 1, 8, 101, 3);
        put(s, 2, 9, 102, 3);
        put(s, 1, 8, 8, 3);
        put(s, 1, 0, 8, 3);
        put(s, 1, 999999, 0, 3);
        put(s, 1, 5, 999999, 3);
    }

    private static void putOfPresentKeyWhenFull() {
        for (int capacity = 4; capacity <= 16; capacity++) {
            Stepping s = filled(capacity, capacity);
            put(s, 0, 7, 100, capacity);
            put(s, capacity - 1, 8, 100 + capacity - 1, capacity);
            put(s, capacity / 2, 9, 100 + capacity / 2, capacity);
        }
    }

    private static void putOfAbsentKeyWhenFull() {
        for (int capacity = 4; capacity <= 16; capacity++) {
            Stepping s = filled(capacity, capacity);
            int side = 1 - s.x.global(LeftRightMap.G_LEFT_RIGHT);
            for (int key : new int[] {capacity, 9999}) {
                s.put(1, key, 50);
                s.step("W_LOCK", 2, MOVED, "lock", 1, "w1 phase", LeftRightMap.W_APPLY_IDLE);
                s.step("W_APPLY_IDLE when full", 2, MOVED, "w1 side", side, "w1 result", LeftRightMap.FULL,
                    "lock", LeftRightMap.NONE, "w1 phase", LeftRightMap.W_DONE);
                s.noStep(2);
            }
        }
    }

    private static void putOfLastKeyThatFits() {
        for (int capacity = 4; capacity <= 16; capacity++) {
            Stepping s = filled(capacity, capacity - 1);
            put(s, 9999, 50, LeftRightMap.ABSENT, capacity);
        }
    }

    private static void putIntoEmpty() {
        put(filled(4, 0), 0, 0, LeftRightMap.ABSENT, 1);
        put(filled(16, 0), 9999, 999999, LeftRightMap.ABSENT, 1);
    }

    private static void putAfterRemoveWhenFull() {
        for (int capacity = 4; capacity <= 16; capacity += 6) {
            for (int key = 0; key < capacity; key++) {
                Stepping s = filled(capacity, capacity);
                remove(s, key, 100 + key, capacity - 1);
                put(s, 5000, 5, LeftRightMap.ABSENT, capacity);
                s.put(0, key, 6);
                DUE.due("run(64) of a put when full again", s.x.run(64), 2);
                DUE.due("writer(0, FIELD_RESULT)", s.x.writer(0, LeftRightMap.FIELD_RESULT), LeftRightMap.FULL);
            }
        }
    }

    private static void putOfLeastAndGreatest() {
        Stepping s = filled(4, 0);
        put(s, 0, 0, LeftRightMap.ABSENT, 1);
        put(s, 9999, 999999, LeftRightMap.ABSENT, 2);
        put(s, 0, 999999, 0, 2);
        put(s, 9999, 0, 999999, 2);
    }

    private static void removeOfPresentKey() {
        for (int key = 0; key < 3; key++) {
            remove(filled(4, 3), key, 100 + key, 2);
        }
        Stepping s = filled(4, 0);
        put(s, 0, 0, LeftRightMap.ABSENT, 1);
        put(s, 9999, 999999, LeftRightMap.ABSENT, 2);
        remove(s, 0, 0, 1);
        remove(s, 9999, 999999, 0);
    }

    private static void removeWhenFull() {
        for (int capacity = 4; capacity <= 16; capacity += 4) {
            for (int key = 0; key < capacity; key++) {
                remove(filled(capacity, capacity), key, 100 + key, capacity - 1);
            }
        }
    }

    private static void removeOfOnlyKey() {
        Stepping s = filled(4, 1);
        remove(s, 0, 100, 0);
        remove(s, 0, LeftRightMap.ABSENT, 0);
        put(s, 0, 5, LeftRightMap.ABSENT, 1);
    }

    private static void removeFromEmpty() {
        remove(filled(4, 0), 0, LeftRightMap.ABSENT, 0);
        remove(filled(4, 0), 9999, LeftRightMap.ABSENT, 0);
    }

    private static void removeOfAbsentKey() {
        Stepping s = filled(4, 2);
        remove(s, 2, LeftRightMap.ABSENT, 2);
        remove(s, 9999, LeftRightMap.ABSENT, 2);
        remove(s, 1, 101, 1);
        remove(s, 1, LeftRightMap.ABSENT, 1);
    }

    private static void removeOfAbsentKeyWhenFull() {
        for (int capacity = 4; capacity <= 16; capacity++) {
            remove(filled(capacity, capacity), capacity, LeftRightMap.ABSENT, capacity);
        }
    }

    /** The next writer finds the lock free, and the bits are as if the put had not been. */
    private static void fullEndsAtOnce() {
        Stepping s = filled(4, 4);
        s.x.startPut(0, 9, 9);
        s.x.step(1);
        s.put(1, 3, 33);
        s.step("W_LOCK", 2, Stepping.WAITED);
        s.step("W_APPLY_IDLE when full", 1, MOVED, "w0 side", 1, "w0 result", LeftRightMap.FULL,
            "lock", LeftRightMap.NONE, "w0 phase", LeftRightMap.W_DONE);
        s.step("W_LOCK", 2, MOVED, "lock", 1, "w1 phase", LeftRightMap.W_APPLY_IDLE);
        s.step("W_APPLY_IDLE", 2, MOVED, "w1 side", 1, "w1 result", 103, "i1 3", 33,
            "w1 phase", LeftRightMap.W_FLIP);
    }

    private static void flips() {
        for (int puts = 0; puts < 2; puts++) {
            Stepping s = filled(4, puts);
            s.x.startPut(0, 3, 33);
            Drive.writerTo(s.x, 0, LeftRightMap.W_FLIP);
            s.watch();
            s.step("W_FLIP", 1, MOVED, "leftRight", 1 - puts, "peek 3", 33, "size", puts + 1,
                "w0 phase", LeftRightMap.W_DRAIN_NEXT);
        }
    }

    private static void toggles() {
        for (int puts = 0; puts < 2; puts++) {
            Stepping s = filled(4, puts);
            s.x.startPut(0, 3, 33);
            Drive.writerTo(s.x, 0, LeftRightMap.W_TOGGLE);
            DUE.due("writer(0, FIELD_VERSION)", s.x.writer(0, LeftRightMap.FIELD_VERSION), puts);
            s.watch();
            s.step("W_TOGGLE", 1, MOVED, "versionIndex", 1 - puts, "w0 phase", LeftRightMap.W_DRAIN_PREV);
        }
    }

    private static void appliesToTheOldSide() {
        Stepping s = filled(4, 4);
        s.x.startPut(0, 2, 7);
        Drive.writerTo(s.x, 0, LeftRightMap.W_APPLY_OLD);
        s.watch();
        s.step("W_APPLY_OLD of a put", 1, MOVED, "i0 2", 7, "lock", LeftRightMap.NONE,
            "w0 phase", LeftRightMap.W_DONE);
        DUE.due("writer(0, FIELD_RESULT)", s.x.writer(0, LeftRightMap.FIELD_RESULT), 102);
        s.x.startRemove(0, 2);
        Drive.writerTo(s.x, 0, LeftRightMap.W_APPLY_OLD);
        s.watch();
        s.step("W_APPLY_OLD of a remove", 1, MOVED, "i1 2", State.GONE, "lock", LeftRightMap.NONE,
            "w0 phase", LeftRightMap.W_DONE);
        DUE.due("writer(0, FIELD_RESULT)", s.x.writer(0, LeftRightMap.FIELD_RESULT), 7);
    }

    /** One side is full already, the other gets its last key. */
    private static void applyOldHasRoom() {
        for (int capacity = 4; capacity <= 16; capacity++) {
            Stepping s = filled(capacity, capacity - 1);
            s.x.startPut(0, 9999, 5);
            Drive.writerTo(s.x, 0, LeftRightMap.W_APPLY_OLD);
            DUE.due("global(G_SIZE)", s.x.global(LeftRightMap.G_SIZE), capacity);
            int old = 1 - s.x.global(LeftRightMap.G_LEFT_RIGHT);
            s.watch();
            s.step("W_APPLY_OLD of the last key that fits", 1, MOVED, "i" + old + " 9999", 5,
                "lock", LeftRightMap.NONE, "w0 phase", LeftRightMap.W_DONE);
        }
    }

    private static void alikeWhenTheLockIsFree() {
        LeftRightMap x = new LeftRightMap(4, 2, 3);
        for (int i = 0; i < 600; i++) {
            x.startLookup(i % 2, i % 7);
            x.startPut(i % 3, i % 7, i);
            x.startRemove((i + 1) % 3, (i + 3) % 7);
            x.step((i * i + i / 3) % 5);
            if (x.global(LeftRightMap.G_LOCK) == LeftRightMap.NONE) {
                for (int key = 0; key < 7; key++) {
                    DUE.due("instance(0, " + key + ") against the other one", x.instance(0, key), x.instance(1, key));
                }
            }
        }
    }
}
