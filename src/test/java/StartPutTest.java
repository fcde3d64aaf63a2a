/** Promise 3: startPut, what it refuses and what it sets. */
public final class StartPutTest {
    private static final Due DUE = new Due();

    public static void main(String[] args) {
        starts();
        refusesWrongInputs();
        refusesWhileActive();
        startsAgainWhenDone();
        startsAgainWhenFull();
        DUE.end();
    }

    private static void starts() {
        LeftRightMap x = new LeftRightMap(4, 2, 3);
        DUE.watch(x);
        DUE.due("startPut(0, 0, 0)", x.startPut(0, 0, 0), true);
        DUE.changes("startPut(0, 0, 0)", "w0 kind", LeftRightMap.KIND_PUT, "w0 key", 0, "w0 value", 0,
            "w0 phase", LeftRightMap.W_LOCK);
        x.step(2);
        DUE.watch(x);
        DUE.due("startPut(2, MAX_KEY, MAX_VALUE) with the lock held",
            x.startPut(2, LeftRightMap.MAX_KEY, LeftRightMap.MAX_VALUE), true);
        DUE.changes("startPut(2, MAX_KEY, MAX_VALUE)", "w2 kind", LeftRightMap.KIND_PUT, "w2 key", 9999,
            "w2 value", 999999, "w2 phase", LeftRightMap.W_LOCK);
    }

    private static void refusesWrongInputs() {
        LeftRightMap x = new LeftRightMap(4, 2, 3);
        DUE.watch(x);
        int[] wrongWriters = {-1, 3, 4, 5, Integer.MIN_VALUE, Integer.MAX_VALUE};
        for (int w : wrongWriters) {
            DUE.due("startPut(" + w + ", 1, 1)", x.startPut(w, 1, 1), false);
            DUE.changes("startPut(" + w + ", 1, 1)");
        }
        int[] wrongKeys = {-1, 10000, Integer.MIN_VALUE, Integer.MAX_VALUE};
        for (int key : wrongKeys) {
            DUE.due("startPut(0, " + key + ", 1)", x.startPut(0, key, 1), false);
            DUE.changes("startPut(0, " + key + ", 1)");
        }
        int[] wrongValues = {-1, LeftRightMap.FULL, 1000000, Integer.MIN_VALUE, Integer.MAX_VALUE};
        for (int value : wrongValues) {
            DUE.due("startPut(0, 1, " + value + ")", x.startPut(0, 1, value), false);
            DUE.changes("startPut(0, 1, " + value + ")");
        }
    }

    private static void refusesWhileActive() {
        LeftRightMap x = new LeftRightMap(4, 2, 3);
        x.startPut(1, 5, 50);
        for (int phase = LeftRightMap.W_LOCK; phase <= LeftRightMap.W_APPLY_OLD; phase++) {
            DUE.due("writer(1, FIELD_PHASE)", x.writer(1, LeftRightMap.FIELD_PHASE), phase);
            DUE.watch(x);
            DUE.due("startPut(1, 6, 60) in phase " + phase, x.startPut(1, 6, 60), false);
            DUE.changes("startPut(1, 6, 60) in phase " + phase);
            x.step(3);
        }
        DUE.due("writer(1, FIELD_PHASE)", x.writer(1, LeftRightMap.FIELD_PHASE), LeftRightMap.W_DONE);
    }

    private static void startsAgainWhenDone() {
        LeftRightMap x = new LeftRightMap(4, 1, 1);
        x.startRemove(0, 5);
        x.run(64);
        DUE.watch(x);
        DUE.due("startPut(0, 6, 1000000) when done", x.startPut(0, 6, 1000000), false);
        DUE.due("startPut(0, 10000, 6) when done", x.startPut(0, 10000, 6), false);
        DUE.changes("a refused start when done");
        DUE.due("startPut(0, 6, 60) when done", x.startPut(0, 6, 60), true);
        DUE.changes("startPut(0, 6, 60) when done", "w0 kind", LeftRightMap.KIND_PUT, "w0 key", 6,
            "w0 value", 60, "w0 result", LeftRightMap.PENDING, "w0 version", LeftRightMap.NONE,
            "w0 side", LeftRightMap.NONE, "w0 phase", LeftRightMap.W_LOCK);
    }

    private static void startsAgainWhenFull() {
        LeftRightMap x = new LeftRightMap(4, 1, 1);
        for (int key = 0; key < 5; key++) {
            x.startPut(0, key, 10 * key);
            x.run(64);
        }
        DUE.due("writer(0, FIELD_RESULT)", x.writer(0, LeftRightMap.FIELD_RESULT), LeftRightMap.FULL);
        DUE.watch(x);
        DUE.due("startPut(0, 3, 31) after FULL", x.startPut(0, 3, 31), true);
        DUE.changes("startPut(0, 3, 31) after FULL", "w0 key", 3, "w0 value", 31,
            "w0 result", LeftRightMap.PENDING, "w0 side", LeftRightMap.NONE,
            "w0 phase", LeftRightMap.W_LOCK);
    }
}
