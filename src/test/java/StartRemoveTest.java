/** Promise 4: startRemove, what it refuses and what it sets. */
public final class StartRemoveTest {
    private static final Due DUE = new Due();

    public static void main(String[] args) {
        starts();
        refusesWrongInputs();
        refusesWhileActive();
        startsAgainWhenDone();
        DUE.end();
    }

    private static void starts() {
        LeftRightMap x = new LeftRightMap(4, 2, 3);
        DUE.watch(x);
        DUE.due("startRemove(0, 0)", x.startRemove(0, 0), true);
        DUE.changes("startRemove(0, 0)", "w0 kind", LeftRightMap.KIND_REMOVE, "w0 key", 0,
            "w0 phase", LeftRightMap.W_LOCK);
        x.step(2);
        DUE.watch(x);
        DUE.due("startRemove(2, MAX_KEY) with the lock held", x.startRemove(2, LeftRightMap.MAX_KEY), true);
        DUE.changes("startRemove(2, MAX_KEY)", "w2 kind", LeftRightMap.KIND_REMOVE, "w2 key", 9999,
            "w2 phase", LeftRightMap.W_LOCK);
    }

    private static void refusesWrongInputs() {
        LeftRightMap x = new LeftRightMap(4, 2, 3);
        DUE.watch(x);
        int[] wrongWriters = {-1, 3, 4, 5, Integer.MIN_VALUE, Integer.MAX_VALUE};
        for (int w : wrongWriters) {
            DUE.due("startRemove(" + w + ", 1)", x.startRemove(w, 1), false);
            DUE.changes("startRemove(" + w + ", 1)");
        }
        int[] wrongKeys = {-1, 10000, Integer.MIN_VALUE, Integer.MAX_VALUE};
        for (int key : wrongKeys) {
            DUE.due("startRemove(0, " + key + ")", x.startRemove(0, key), false);
            DUE.changes("startRemove(0, " + key + ")");
        }
    }

    private static void refusesWhileActive() {
        LeftRightMap x = new LeftRightMap(4, 2, 3);
        x.startRemove(1, 5);
        for (int phase = LeftRightMap.W_LOCK; phase <= LeftRightMap.W_APPLY_OLD; phase++) {
            DUE.due("writer(1, FIELD_PHASE)", x.writer(1, LeftRightMap.FIELD_PHASE), phase);
            DUE.watch(x);
            DUE.due("startRemove(1, 6) in phase " + phase, x.startRemove(1, 6), false);
            DUE.changes("startRemove(1, 6) in phase " + phase);
            x.step(3);
        }
        DUE.due("writer(1, FIELD_PHASE)", x.writer(1, LeftRightMap.FIELD_PHASE), LeftRightMap.W_DONE);
    }

    private static void startsAgainWhenDone() {
        LeftRightMap x = new LeftRightMap(4, 1, 1);
        x.startPut(0, 5, 50);
        x.run(64);
        DUE.watch(x);
        DUE.due("startRemove(0, 10000) when done", x.startRemove(0, 10000), false);
        DUE.changes("a refused start when done");
        DUE.due("startRemove(0, 6) when done", x.startRemove(0, 6), true);
        DUE.changes("startRemove(0, 6) when done", "w0 kind", LeftRightMap.KIND_REMOVE, "w0 key", 6,
            "w0 value", LeftRightMap.NONE, "w0 result", LeftRightMap.PENDING,
            "w0 version", LeftRightMap.NONE, "w0 side", LeftRightMap.NONE, "w0 phase", LeftRightMap.W_LOCK);
    }
}
