/** Promise 4: startRemove, what it refuses and what it sets. */
public final class StartRemoveTest {
    private static final int MIN = Integer.MIN_VALUE;
    private static final int MAX = Integer.MAX_VALUE;
    private static final Due DUE = new Due();

    public static void main(String[] args) {
        DUE.test("1. 0 <= w: w too small", StartRemoveTest::writerTooSmall);
        DUE.test("1. w < writers: w too large", StartRemoveTest::writerTooLarge);
        DUE.test("2. the phase of w is W_IDLE", StartRemoveTest::startsWhenIdle);
        DUE.test("2. the phase of w is W_IDLE or W_DONE, else false", StartRemoveTest::refusesWhileActive);
        DUE.test("2. else false: a writer that has waited is active too", StartRemoveTest::refusesWhileWaiting);
        DUE.test("2. the phase of w is W_DONE, after a put", StartRemoveTest::startsAfterPut);
        DUE.test("2. the phase of w is W_DONE, after a remove", StartRemoveTest::startsAfterRemove);
        DUE.test("2. the phase of w is W_DONE, after a put that was FULL", StartRemoveTest::startsAfterFull);
        DUE.test("3. 0 <= key: key too small", StartRemoveTest::keyTooSmall);
        DUE.test("3. key <= MAX_KEY: key too large", StartRemoveTest::keyTooLarge);
        DUE.test("A refused call changes nothing at all", StartRemoveTest::refusedChangesNothing);
        DUE.test("As with a put, the lock need not be free", StartRemoveTest::startsWithTheLockHeld);
        DUE.test("Nothing else changes: the lock", StartRemoveTest::leavesTheLockAlone);
        DUE.test("Nothing else changes", StartRemoveTest::changesNothingElse);
        DUE.end();
    }

    private static void refused(LeftRightMap x, int w, int key) {
        DUE.due("startRemove(" + w + ", " + key + ")", x.startRemove(w, key), false);
        DUE.changes("startRemove(" + w + ", " + key + "), refused");
    }

    /** Whatever the writer held before, these seven are set and nothing else changes. */
    private static void taken(LeftRightMap x, int w, int key) {
        DUE.due("startRemove(" + w + ", " + key + ")", x.startRemove(w, key), true);
        String who = "w" + w;
        DUE.changes("startRemove(" + w + ", " + key + ")", who + " kind", LeftRightMap.KIND_REMOVE,
            who + " key", key, who + " value", LeftRightMap.NONE, who + " result", LeftRightMap.PENDING,
            who + " version", LeftRightMap.NONE, who + " side", LeftRightMap.NONE,
            who + " phase", LeftRightMap.W_LOCK);
    }

    private static LeftRightMap fresh(int writers) {
        LeftRightMap x = new LeftRightMap(4, 2, writers);
        DUE.watch(x);
        return x;
    }

    private static void writerTooSmall() {
        for (int writers : new int[] {1, 3, 4}) {
            LeftRightMap x = fresh(writers);
            for (int w : new int[] {-1, -2, -4, MIN + 1, MIN}) {
                refused(x, w, 5);
            }
            taken(x, 0, 5);
        }
    }

    private static void writerTooLarge() {
        for (int writers : new int[] {1, 2, 3, 4}) {
            LeftRightMap x = fresh(writers);
            for (int w : new int[] {writers, writers + 1, writers + 2, 4, 5, MAX - 1, MAX}) {
                refused(x, w, 5);
            }
            taken(x, writers - 1, 5);
        }
    }

    private static void startsWhenIdle() {
        for (int writers = 1; writers <= 4; writers++) {
            LeftRightMap x = fresh(writers);
            for (int w = writers - 1; w >= 0; w--) {
                taken(x, w, 10 * w);
            }
        }
    }

    private static void refusesWhileActive() {
        for (int phase = LeftRightMap.W_LOCK; phase <= LeftRightMap.W_APPLY_OLD; phase++) {
            for (int kind = LeftRightMap.KIND_PUT; kind <= LeftRightMap.KIND_REMOVE; kind++) {
                LeftRightMap x = new LeftRightMap(4, 2, 3);
                if (kind == LeftRightMap.KIND_PUT) {
                    x.startPut(1, 5, 50);
                } else {
                    x.startRemove(1, 5);
                }
                Drive.writerTo(x, 1, phase);
                DUE.due("writer(1, FIELD_PHASE)", x.writer(1, LeftRightMap.FIELD_PHASE), phase);
                DUE.watch(x);
                refused(x, 1, 6);
                refused(x, 1, 5);
                taken(x, 0, 6);
                taken(x, 2, 6);
            }
        }
    }

    private static void refusesWhileWaiting() {
        LeftRightMap x = new LeftRightMap(4, 1, 2);
        x.startLookup(0, 5);
        Drive.steps(x, 0, 2);
        x.startRemove(0, 5);
        Drive.writerTo(x, 0, LeftRightMap.W_DRAIN_PREV);
        x.startRemove(1, 6);
        DUE.due("step(1) in W_DRAIN_PREV", x.step(1), LeftRightMap.STEP_WAITED);
        DUE.due("step(2) in W_LOCK", x.step(2), LeftRightMap.STEP_WAITED);
        DUE.watch(x);
        refused(x, 0, 7);
        refused(x, 1, 7);
    }

    private static void startsAfterPut() {
        LeftRightMap x = new LeftRightMap(4, 1, 2);
        Drive.put(x, 1, 5, 50);
        DUE.watch(x);
        taken(x, 1, 5);
        DUE.due("run(64)", x.run(64), 7);
        DUE.due("writer(1, FIELD_RESULT)", x.writer(1, LeftRightMap.FIELD_RESULT), 50);
    }

    private static void startsAfterRemove() {
        LeftRightMap x = new LeftRightMap(4, 1, 2);
        Drive.put(x, 0, 5, 50);
        Drive.remove(x, 1, 5);
        DUE.watch(x);
        taken(x, 1, 5);
        DUE.due("run(64)", x.run(64), 7);
        DUE.due("writer(1, FIELD_RESULT)", x.writer(1, LeftRightMap.FIELD_RESULT), LeftRightMap.ABSENT);
    }

    private static void startsAfterFull() {
        LeftRightMap x = new LeftRightMap(4, 1, 2);
        Drive.fill(x, 4);
        Drive.put(x, 1, 5, 50);
        DUE.due("writer(1, FIELD_RESULT)", x.writer(1, LeftRightMap.FIELD_RESULT), LeftRightMap.FULL);
        DUE.watch(x);
        taken(x, 1, 3);
        DUE.due("run(64)", x.run(64), 7);
        DUE.due("writer(1, FIELD_RESULT)", x.writer(1, LeftRightMap.FIELD_RESULT), 103);
    }

    private static void keyTooSmall() {
        LeftRightMap x = fresh(3);
        for (int key : new int[] {-1, -2, -3, -4, MIN + 1, MIN}) {
            refused(x, 1, key);
        }
        taken(x, 1, 0);
    }

    private static void keyTooLarge() {
        LeftRightMap x = fresh(3);
        for (int key : new int[] {10000, 10001, 999999, MAX - 1, MAX}) {
            refused(x, 1, key);
        }
        taken(x, 1, 9999);
    }

    /** Each of the three tests fails alone and together with the others, on a writer of every sort. */
    private static void refusedChangesNothing() {
        LeftRightMap x = Drive.busy();
        DUE.watch(x);
        for (int key : new int[] {MIN, -1, 5, 10000, MAX}) {
            for (int w : new int[] {MIN, -1, 3, 4, MAX, 1}) {
                refused(x, w, key);
            }
        }
        for (int key : new int[] {MIN, -1, 10000, MAX}) {
            for (int w : new int[] {0, 2}) {
                refused(x, w, key);
            }
        }
    }

    private static void startsWithTheLockHeld() {
        for (int phase = LeftRightMap.W_APPLY_IDLE; phase <= LeftRightMap.W_APPLY_OLD; phase++) {
            LeftRightMap x = new LeftRightMap(4, 2, 4);
            Drive.put(x, 3, 4, 40);
            x.startRemove(1, 4);
            Drive.writerTo(x, 1, phase);
            DUE.due("global(G_LOCK)", x.global(LeftRightMap.G_LOCK), 1);
            DUE.watch(x);
            taken(x, 0, 4);
            taken(x, 3, 4);
        }
    }

    private static void leavesTheLockAlone() {
        LeftRightMap x = fresh(2);
        DUE.due("startRemove(1, 5)", x.startRemove(1, 5), true);
        DUE.due("global(G_LOCK) that was free", x.global(LeftRightMap.G_LOCK), LeftRightMap.NONE);
        x.step(3);
        DUE.due("startRemove(0, 6)", x.startRemove(0, 6), true);
        DUE.due("global(G_LOCK) that was held", x.global(LeftRightMap.G_LOCK), 1);
    }

    private static void changesNothingElse() {
        LeftRightMap x = Drive.busy();
        DUE.watch(x);
        taken(x, 0, 5);
        taken(x, 2, 6);
    }
}
