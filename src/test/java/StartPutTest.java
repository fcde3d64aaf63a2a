/** Promise 3: startPut, what it refuses and what it sets. */
public final class StartPutTest {
    private static final int MIN = Integer.MIN_VALUE;
    private static final int MAX = Integer.MAX_VALUE;
    private static final Due DUE = new Due();

    public static void main(String[] args) {
        DUE.test("1. 0 <= w: w too small", StartPutTest::writerTooSmall);
        DUE.test("1. w < writers: w too large", StartPutTest::writerTooLarge);
        DUE.test("2. the phase of w is W_IDLE", StartPutTest::startsWhenIdle);
        DUE.test("2. the phase of w is W_IDLE or W_DONE, else false", StartPutTest::refusesWhileActive);
        DUE.test("2. else false: a writer that has waited is active too", StartPutTest::refusesWhileWaiting);
        DUE.test("2. the phase of w is W_DONE, after a put", StartPutTest::startsAfterPut);
        DUE.test("2. the phase of w is W_DONE, after a remove", StartPutTest::startsAfterRemove);
        DUE.test("2. the phase of w is W_DONE, after a put that was FULL", StartPutTest::startsAfterFull);
        DUE.test("3. 0 <= key: key too small", StartPutTest::keyTooSmall);
        DUE.test("3. key <= MAX_KEY: key too large", StartPutTest::keyTooLarge);
        DUE.test("4. 0 <= value: value too small", StartPutTest::valueTooSmall);
        DUE.test("4. value <= MAX_VALUE: value too large", StartPutTest::valueTooLarge);
        DUE.test("A refused call changes nothing at all", StartPutTest::refusedChangesNothing);
        DUE.test("The lock need not be free", StartPutTest::startsWithTheLockHeld);
        DUE.test("the call neither takes nor inspects the lock", StartPutTest::leavesTheLockAlone);
        DUE.test("Nothing else changes", StartPutTest::changesNothingElse);
        DUE.end();
    }

    private static void refused(LeftRightMap x, int w, int key, int value) {
        String call = "startPut(" + w + ", " + key + ", " + value + ")";
        DUE.due(call, x.startPut(w, key, value), false);
        DUE.changes(call + ", refused");
    }

    /** Whatever the writer held before, these seven are set and nothing else changes. */
    private static void taken(LeftRightMap x, int w, int key, int value) {
        String call = "startPut(" + w + ", " + key + ", " + value + ")";
        DUE.due(call, x.startPut(w, key, value), true);
        String who = "w" + w;
        DUE.changes(call, who + " kind", LeftRightMap.KIND_PUT, who + " key", key, who + " value", value,
            who + " result", LeftRightMap.PENDING, who + " version", LeftRightMap.NONE,
            who + " side", LeftRightMap.NONE, who + " phase", LeftRightMap.W_LOCK);
    }

    private static LeftRightMap fresh(int writers) {
        LeftRightMap x = new LeftRightMap(4, 2, writers);
        DUE.watch(x);
        return x;
    }

    private static void writerTooSmall() {
        for (int writers : new int[] {1, 3, 4}) {
            LeftRightMap x = fresh(writers);
            for (int w : new int[] {-1, -2, -4, MIN + 1, MIN}) {
                refused(x, w, 5, 50);
            }
            taken(x, 0, 5, 50);
        }
    }

    private static void writerTooLarge() {
        for (int writers : new int[] {1, 2, 3, 4}) {
            LeftRightMap x = fresh(writers);
            for (int w : new int[] {writers, writers + 1, writers + 2, 4, 5, MAX - 1, MAX}) {
                refused(x, w, 5, 50);
            }
            taken(x, writers - 1, 5, 50);
        }
    }

    private static void startsWhenIdle() {
        for (int writers = 1; writers <= 4; writers++) {
            LeftRightMap x = fresh(writers);
            for (int w = writers - 1; w >= 0; w--) {
                taken(x, w, 10 * w, 20 * w);
            }
        }
    }

    private static void refusesWhileActive() {
        for (int phase = LeftRightMap.W_LOCK; phase <= LeftRightMap.W_APPLY_OLD; phase++) {
            for (int kind = LeftRightMap.KIND_PUT; kind <= LeftRightMap.KIND_REMOVE; kind++) {
                LeftRightMap x = new LeftRightMap(4, 2, 3);
                if (kind == LeftRightMap.KIND_PUT) {
                    x.startPut(1, 5, 50);
                } else {
                    x.startRemove(1, 5);
                }
                Drive.writerTo(x, 1, phase);
                DUE.due("writer(1, FIELD_PHASE)", x.writer(1, LeftRightMap.FIELD_PHASE), phase);
                DUE.watch(x);
                refused(x, 1, 6, 60);
                refused(x, 1, 5, 50);
                taken(x, 0, 6, 60);
                taken(x, 2, 6, 60);
            }
        }
    }

    private static void refusesWhileWaiting() {
        LeftRightMap x = new LeftRightMap(4, 1, 2);
        x.startLookup(0, 5);
        Drive.steps(x, 0, 2);
        x.startPut(0, 5, 50);
        Drive.writerTo(x, 0, LeftRightMap.W_DRAIN_PREV);
        x.startPut(1, 6, 60);
        DUE.due("step(1) in W_DRAIN_PREV", x.step(1), LeftRightMap.STEP_WAITED);
        DUE.due("step(2) in W_LOCK", x.step(2), LeftRightMap.STEP_WAITED);
        DUE.watch(x);
        refused(x, 0, 7, 70);
        refused(x, 1, 7, 70);
    }

    private static void startsAfterPut() {
        LeftRightMap x = new LeftRightMap(4, 1, 2);
        Drive.put(x, 1, 5, 50);
        DUE.watch(x);
        taken(x, 1, 5, 51);
        DUE.due("run(64)", x.run(64), 7);
        DUE.due("writer(1, FIELD_RESULT)", x.writer(1, LeftRightMap.FIELD_RESULT), 50);
    }

    private static void startsAfterRemove() {
        LeftRightMap x = new LeftRightMap(4, 1, 2);
        Drive.put(x, 0, 5, 50);
        Drive.remove(x, 1, 5);
        DUE.watch(x);
        taken(x, 1, 6, 60);
        DUE.due("run(64)", x.run(64), 7);
        DUE.due("peek(6)", x.peek(6), 60);
    }

    private static void startsAfterFull() {
        LeftRightMap x = new LeftRightMap(4, 1, 2);
        Drive.fill(x, 4);
        Drive.put(x, 1, 5, 50);
        DUE.due("writer(1, FIELD_RESULT)", x.writer(1, LeftRightMap.FIELD_RESULT), LeftRightMap.FULL);
        DUE.watch(x);
        taken(x, 1, 3, 31);
        DUE.due("run(64)", x.run(64), 7);
        DUE.due("writer(1, FIELD_RESULT)", x.writer(1, LeftRightMap.FIELD_RESULT), 103);
    }

    private static void keyTooSmall() {
        LeftRightMap x = fresh(3);
        for (int key : new int[] {-1, -2, -3, -4, MIN + 1, MIN}) {
            refused(x, 1, key, 50);
        }
        taken(x, 1, 0, 50);
    }

    private static void keyTooLarge() {
        LeftRightMap x = fresh(3);
        for (int key : new int[] {10000, 10001, 999999, MAX - 1, MAX}) {
            refused(x, 1, key, 50);
        }
        taken(x, 1, 9999, 50);
    }

    private static void valueTooSmall() {
        LeftRightMap x = fresh(3);
        for (int value : new int[] {-1, -2, -3, -4, MIN + 1, MIN}) {
            refused(x, 1, 5, value);
        }
        taken(x, 1, 5, 0);
    }

    private static void valueTooLarge() {
        LeftRightMap x = fresh(3);
        for (int value : new int[] {1000000, 1000001, MAX - 1, MAX}) {
            refused(x, 1, 5, value);
        }
        taken(x, 1, 5, 999999);
    }

    /** Each of the four tests fails alone and together with the others, on a writer of every sort. */
    private static void refusedChangesNothing() {
        LeftRightMap x = Drive.busy();
        DUE.watch(x);
        for (int key : new int[] {MIN, -1, 5, 10000, MAX}) {
            for (int value : new int[] {MIN, -1, 50, 1000000, MAX}) {
                boolean good = key == 5 && value == 50;
                for (int w : new int[] {MIN, -1, 3, 4, MAX, 1}) {
                    refused(x, w, key, value);
                }
                for (int w : new int[] {0, 2}) {
                    if (!good) {
                        refused(x, w, key, value);
                    }
                }
            }
        }
    }

    private static void startsWithTheLockHeld() {
        for (int phase = LeftRightMap.W_APPLY_IDLE; phase <= LeftRightMap.W_APPLY_OLD; phase++) {
            LeftRightMap x = new LeftRightMap(4, 2, 4);
            Drive.put(x, 3, 4, 40);
            x.startPut(1, 5, 50);
            Drive.writerTo(x, 1, phase);
            DUE.due("global(G_LOCK)", x.global(LeftRightMap.G_LOCK), 1);
            DUE.watch(x);
            taken(x, 0, 6, 60);
            taken(x, 3, 6, 60);
        }
    }

    private static void leavesTheLockAlone() {
        LeftRightMap x = fresh(2);
        DUE.due("startPut(1, 5, 50)", x.startPut(1, 5, 50), true);
        DUE.due("global(G_LOCK) that was free", x.global(LeftRightMap.G_LOCK), LeftRightMap.NONE);
        x.step(3);
        DUE.due("startPut(0, 6, 60)", x.startPut(0, 6, 60), true);
        DUE.due("global(G_LOCK) that was held", x.global(LeftRightMap.G_LOCK), 1);
    }

    private static void changesNothingElse() {
        LeftRightMap x = Drive.busy();
        DUE.watch(x);
        taken(x, 0, 5, 51);
        taken(x, 2, 6, 61);
    }
}
