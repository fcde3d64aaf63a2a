/** Promise 1: the constructor clamps its arguments, and all state starts as the document says. */
public final class ConstructionTest {
    private static final int MIN = Integer.MIN_VALUE;
    private static final int MAX = Integer.MAX_VALUE;
    private static final Due DUE = new Due();

    public static void main(String[] args) {
        DUE.test("capacity: below the least it becomes the least", ConstructionTest::capacityTooSmall);
        DUE.test("capacity: above the greatest it becomes the greatest", ConstructionTest::capacityTooLarge);
        DUE.test("capacity is clamped to 4..16 keys per instance", ConstructionTest::capacityBetween);
        DUE.test("readers: below the least it becomes the least", ConstructionTest::readersTooFew);
        DUE.test("readers: above the greatest it becomes the greatest", ConstructionTest::readersTooMany);
        DUE.test("readers to 1..8", ConstructionTest::readersBetween);
        DUE.test("writers: below the least it becomes the least", ConstructionTest::writersTooFew);
        DUE.test("writers: above the greatest it becomes the greatest", ConstructionTest::writersTooMany);
        DUE.test("writers to 1..4", ConstructionTest::writersBetween);
        DUE.test("clamps each argument", ConstructionTest::eachArgumentByItself);
        DUE.test("These clamped numbers never change afterwards", ConstructionTest::numbersNeverChange);
        DUE.test("instance 0 and instance 1 are both empty", ConstructionTest::startsEmpty);
        DUE.test("leftRight is 0", () -> startsWith(LeftRightMap.G_LEFT_RIGHT, 0));
        DUE.test("versionIndex is 0", () -> startsWith(LeftRightMap.G_VERSION, 0));
        DUE.test("indicator[0] and indicator[1] are both 0", ConstructionTest::startsWithoutReaders);
        DUE.test("lock is NONE", () -> startsWith(LeftRightMap.G_LOCK, LeftRightMap.NONE));
        DUE.test("cursor is 0", () -> startsWith(LeftRightMap.G_CURSOR, 0));
        DUE.test("steps is 0", () -> startsWith(LeftRightMap.G_STEPS, 0));
        DUE.test("Every reader r starts with", ConstructionTest::readersStart);
        DUE.test("Every writer w starts with", ConstructionTest::writersStart);
        DUE.test("So at the start no agent is active", ConstructionTest::nobodyIsActive);
        DUE.test("All state starts as follows", ConstructionTest::startsSoBesideAnotherObject);
        DUE.end();
    }

    /** The object tells the numbers, and has room, readers and writers for just so many. */
    private static void sized(int[] arguments, int capacity, int readers, int writers) {
        LeftRightMap x = made(arguments);
        String call = named(arguments);
        DUE.due(call + " global(G_CAPACITY)", x.global(LeftRightMap.G_CAPACITY), capacity);
        DUE.due(call + " global(G_READERS)", x.global(LeftRightMap.G_READERS), readers);
        DUE.due(call + " global(G_WRITERS)", x.global(LeftRightMap.G_WRITERS), writers);
        Drive.fill(x, capacity - 1);
        Drive.put(x, 0, 9998, 1);
        DUE.due(call + " put of the last key that fits", result(x, 0), LeftRightMap.ABSENT);
        Drive.put(x, 0, 9999, 1);
        DUE.due(call + " put of one key more", result(x, 0), LeftRightMap.FULL);
        DUE.due(call + " startLookup of the last reader", x.startLookup(readers - 1, 1), true);
        DUE.due(call + " startLookup of one reader more", x.startLookup(readers, 1), false);
        DUE.due(call + " startPut of the last writer", x.startPut(writers - 1, 1, 1), true);
        DUE.due(call + " startPut of one writer more", x.startPut(writers, 1, 1), false);
        DUE.due(call + " step of the last agent", x.step(readers + writers - 1), LeftRightMap.STEP_MOVED);
        DUE.due(call + " global(G_LOCK)", x.global(LeftRightMap.G_LOCK), writers - 1);
        DUE.due(call + " step of one agent more", x.step(readers + writers), LeftRightMap.STEP_NONE);
    }

    private static LeftRightMap made(int[] arguments) {
        return new LeftRightMap(arguments[0], arguments[1], arguments[2]);
    }

    private static String named(int[] arguments) {
        return "new LeftRightMap(" + arguments[0] + ", " + arguments[1] + ", " + arguments[2] + ")";
    }

    private static int result(LeftRightMap x, int w) {
        return x.writer(w, LeftRightMap.FIELD_RESULT);
    }

    private static void capacityTooSmall() {
        for (int capacity : new int[] {3, 2, 1, 0, -1, -4, -16, MIN + 1, MIN}) {
            sized(new int[] {capacity, 2, 3}, 4, 2, 3);
        }
    }

    private static void capacityTooLarge() {
        for (int capacity : new int[] {17, 18, 32, 1000, MAX - 1, MAX}) {
            sized(new int[] {capacity, 2, 3}, 16, 2, 3);
        }
    }

    private static void capacityBetween() {
        for (int capacity = 4; capacity <= 16; capacity++) {
            sized(new int[] {capacity, 2, 3}, capacity, 2, 3);
        }
    }

    private static void readersTooFew() {
        for (int readers : new int[] {0, -1, -2, -8, MIN + 1, MIN}) {
            sized(new int[] {5, readers, 3}, 5, 1, 3);
        }
    }

    private static void readersTooMany() {
        for (int readers : new int[] {9, 10, 16, 1000, MAX - 1, MAX}) {
            sized(new int[] {5, readers, 3}, 5, 8, 3);
        }
    }

    private static void readersBetween() {
        for (int readers = 1; readers <= 8; readers++) {
            sized(new int[] {5, readers, 3}, 5, readers, 3);
        }
    }

    private static void writersTooFew() {
        for (int writers : new int[] {0, -1, -2, -4, MIN + 1, MIN}) {
            sized(new int[] {5, 3, writers}, 5, 3, 1);
        }
    }

    private static void writersTooMany() {
        for (int writers : new int[] {5, 6, 8, 1000, MAX - 1, MAX}) {
            sized(new int[] {5, 3, writers}, 5, 3, 4);
        }
    }

    private static void writersBetween() {
        for (int writers = 1; writers <= 4; writers++) {
            sized(new int[] {5, 3, writers}, 5, 3, writers);
        }
    }

    private static void eachArgumentByItself() {
        sized(new int[] {0, 0, 0}, 4, 1, 1);
        sized(new int[] {3, 0, 5}, 4, 1, 4);
        sized(new int[] {3, 9, 0}, 4, 8, 1);
        sized(new int[] {3, 9, 5}, 4, 8, 4);
        sized(new int[] {17, 0, 0}, 16, 1, 1);
        sized(new int[] {17, 0, 5}, 16, 1, 4);
        sized(new int[] {17, 9, 0}, 16, 8, 1);
        sized(new int[] {17, 9, 5}, 16, 8, 4);
        sized(new int[] {4, 1, 1}, 4, 1, 1);
        sized(new int[] {16, 8, 4}, 16, 8, 4);
        sized(new int[] {MIN, MAX, MIN}, 4, 8, 1);
        sized(new int[] {MAX, MIN, MAX}, 16, 1, 4);
    }

    private static void numbersNeverChange() {
        numbersNeverChange(new int[] {4, 1, 1}, 4, 1, 1);
        numbersNeverChange(new int[] {5, 3, 2}, 5, 3, 2);
        numbersNeverChange(new int[] {17, 9, 5}, 16, 8, 4);
        numbersNeverChange(new int[] {-1, -1, -1}, 4, 1, 1);
    }

    private static void numbersNeverChange(int[] arguments, int capacity, int readers, int writers) {
        LeftRightMap x = made(arguments);
        for (int i = 0; i < 400; i++) {
            int agent = i % (readers + writers + 2) - 1;
            x.startLookup(i % (readers + 2) - 1, i % 40 - 1);
            sameNumbers("startLookup", x, capacity, readers, writers);
            x.startPut(i % (writers + 2) - 1, i % 40 - 1, i);
            sameNumbers("startPut", x, capacity, readers, writers);
            x.step(agent);
            sameNumbers("step", x, capacity, readers, writers);
            x.run(i % 5 - 1);
            sameNumbers("run", x, capacity, readers, writers);
            if (i % 10 == 9) {
                x.startRemove(i % writers, i % 7);
                sameNumbers("startRemove", x, capacity, readers, writers);
            }
        }
    }

    private static void sameNumbers(String call, LeftRightMap x, int capacity, int readers, int writers) {
        DUE.due("global(G_CAPACITY) after " + call, x.global(LeftRightMap.G_CAPACITY), capacity);
        DUE.due("global(G_READERS) after " + call, x.global(LeftRightMap.G_READERS), readers);
        DUE.due("global(G_WRITERS) after " + call, x.global(LeftRightMap.G_WRITERS), writers);
    }

    /** Objects of the least, a middle and the greatest size. */
    private static LeftRightMap[] fresh() {
        return new LeftRightMap[] {
            new LeftRightMap(4, 1, 1), new LeftRightMap(9, 3, 2), new LeftRightMap(16, 8, 4)
        };
    }

    private static void startsWith(int field, int value) {
        for (LeftRightMap x : fresh()) {
            DUE.due("global(" + field + ") at the start", x.global(field), value);
        }
    }

    private static void startsEmpty() {
        for (LeftRightMap x : fresh()) {
            DUE.due("global(G_SIZE) at the start", x.global(LeftRightMap.G_SIZE), 0);
            for (int key = 0; key <= 9999; key++) {
                DUE.due("instance(0, " + key + ") at the start", x.instance(0, key), LeftRightMap.ABSENT);
                DUE.due("instance(1, " + key + ") at the start", x.instance(1, key), LeftRightMap.ABSENT);
            }
        }
    }

    private static void startsWithoutReaders() {
        startsWith(LeftRightMap.G_INDICATOR0, 0);
        startsWith(LeftRightMap.G_INDICATOR1, 0);
    }

    private static void readersStart() {
        for (LeftRightMap x : fresh()) {
            for (int r = 0; r < x.global(LeftRightMap.G_READERS); r++) {
                String who = "reader " + r + " starts with ";
                DUE.due(who + "phase", x.reader(r, LeftRightMap.FIELD_PHASE), LeftRightMap.R_IDLE);
                DUE.due(who + "key", x.reader(r, LeftRightMap.FIELD_KEY), LeftRightMap.NONE);
                DUE.due(who + "result", x.reader(r, LeftRightMap.FIELD_RESULT), LeftRightMap.PENDING);
                DUE.due(who + "version", x.reader(r, LeftRightMap.FIELD_VERSION), LeftRightMap.NONE);
                DUE.due(who + "side", x.reader(r, LeftRightMap.FIELD_SIDE), LeftRightMap.NONE);
            }
        }
    }

    private static void writersStart() {
        for (LeftRightMap x : fresh()) {
            for (int w = 0; w < x.global(LeftRightMap.G_WRITERS); w++) {
                String who = "writer " + w + " starts with ";
                DUE.due(who + "phase", x.writer(w, LeftRightMap.FIELD_PHASE), LeftRightMap.W_IDLE);
                DUE.due(who + "kind", x.writer(w, LeftRightMap.FIELD_KIND), LeftRightMap.KIND_NONE);
                DUE.due(who + "key", x.writer(w, LeftRightMap.FIELD_KEY), LeftRightMap.NONE);
                DUE.due(who + "value", x.writer(w, LeftRightMap.FIELD_VALUE), LeftRightMap.NONE);
                DUE.due(who + "result", x.writer(w, LeftRightMap.FIELD_RESULT), LeftRightMap.PENDING);
                DUE.due(who + "version", x.writer(w, LeftRightMap.FIELD_VERSION), LeftRightMap.NONE);
                DUE.due(who + "side", x.writer(w, LeftRightMap.FIELD_SIDE), LeftRightMap.NONE);
            }
        }
    }

    private static void nobodyIsActive() {
        for (LeftRightMap x : fresh()) {
            DUE.watch(x);
            for (int agent = 0; agent < 12; agent++) {
                DUE.due("step(" + agent + ") at the start", x.step(agent), LeftRightMap.STEP_NONE);
            }
            DUE.due("run(64) at the start", x.run(64), 0);
            DUE.changes("steps and runs of nobody");
        }
    }

    private static void startsSoBesideAnotherObject() {
        LeftRightMap untouched = new LeftRightMap(4, 4, 3);
        DUE.watch(untouched);
        Drive.busy();
        DUE.changes("calls on another object");
        DUE.sameState("calls on another object", State.of(new LeftRightMap(4, 4, 3), 9999),
            State.of(untouched, 9999));
    }
}
