/** Promise 2: startLookup, what it refuses and what it sets. */
public final class StartLookupTest {
    private static final Due DUE = new Due();

    public static void main(String[] args) {
        starts();
        refusesWrongInputs();
        refusesWhileActive();
        startsAgainWhenDone();
        DUE.end();
    }

    private static void starts() {
        LeftRightMap x = new LeftRightMap(4, 3, 2);
        DUE.watch(x);
        DUE.due("startLookup(0, 0)", x.startLookup(0, 0), true);
        DUE.changes("startLookup(0, 0)", "r0 key", 0, "r0 phase", LeftRightMap.R_READ_VERSION);
        DUE.due("startLookup(2, MAX_KEY)", x.startLookup(2, LeftRightMap.MAX_KEY), true);
        DUE.changes("startLookup(2, MAX_KEY)", "r2 key", 9999, "r2 phase", LeftRightMap.R_READ_VERSION);
        DUE.due("startLookup(1, 77)", x.startLookup(1, 77), true);
        DUE.changes("startLookup(1, 77)", "r1 key", 77, "r1 phase", LeftRightMap.R_READ_VERSION);
    }

    private static void refusesWrongInputs() {
        LeftRightMap x = new LeftRightMap(4, 3, 2);
        DUE.watch(x);
        int[] wrongReaders = {-1, 3, 4, 5, 7, 8, 9, Integer.MIN_VALUE, Integer.MAX_VALUE};
        for (int r : wrongReaders) {
            DUE.due("startLookup(" + r + ", 1)", x.startLookup(r, 1), false);
            DUE.changes("startLookup(" + r + ", 1)");
        }
        int[] wrongKeys = {-1, 10000, LeftRightMap.PENDING, Integer.MIN_VALUE, Integer.MAX_VALUE};
        for (int key : wrongKeys) {
            DUE.due("startLookup(0, " + key + ")", x.startLookup(0, key), false);
            DUE.changes("startLookup(0, " + key + ")");
        }
    }

    private static void refusesWhileActive() {
        LeftRightMap x = new LeftRightMap(4, 3, 2);
        x.startLookup(1, 5);
        for (int phase = LeftRightMap.R_READ_VERSION; phase <= LeftRightMap.R_DEPART; phase++) {
            DUE.due("reader(1, FIELD_PHASE)", x.reader(1, LeftRightMap.FIELD_PHASE), phase);
            DUE.watch(x);
            DUE.due("startLookup(1, 6) in phase " + phase, x.startLookup(1, 6), false);
            DUE.changes("startLookup(1, 6) in phase " + phase);
            x.step(1);
        }
        DUE.due("reader(1, FIELD_PHASE)", x.reader(1, LeftRightMap.FIELD_PHASE), LeftRightMap.R_DONE);
    }

    private static void startsAgainWhenDone() {
        LeftRightMap x = new LeftRightMap(4, 1, 1);
        x.startPut(0, 5, 50);
        x.run(64);
        x.startLookup(0, 5);
        x.run(64);
        DUE.watch(x);
        DUE.due("startLookup(0, 10000) when done", x.startLookup(0, 10000), false);
        DUE.due("startLookup(0, -1) when done", x.startLookup(0, -1), false);
        DUE.changes("a refused start when done");
        DUE.due("reader(0, FIELD_RESULT)", x.reader(0, LeftRightMap.FIELD_RESULT), 50);
        DUE.due("startLookup(0, 6) when done", x.startLookup(0, 6), true);
        DUE.changes("startLookup(0, 6) when done", "r0 key", 6, "r0 result", LeftRightMap.PENDING,
            "r0 version", LeftRightMap.NONE, "r0 side", LeftRightMap.NONE,
            "r0 phase", LeftRightMap.R_READ_VERSION);
    }
}
