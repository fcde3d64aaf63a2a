/** Promise 2: startLookup, what it refuses and what it sets. */
public final class StartLookupTest {
    private static final int MIN = Integer.MIN_VALUE;
    private static final int MAX = Integer.MAX_VALUE;
    private static final Due DUE = new Due();

    public static void main(String[] args) {
        DUE.test("1. 0 <= r: r too small", StartLookupTest::readerTooSmall);
        DUE.test("1. r < readers: r too large", StartLookupTest::readerTooLarge);
        DUE.test("2. the phase of r is R_IDLE", StartLookupTest::startsWhenIdle);
        DUE.test("2. the phase of r is R_IDLE or R_DONE, else it answers false", StartLookupTest::refusesWhileActive);
        DUE.test("2. the phase of r is R_DONE", StartLookupTest::startsWhenDone);
        DUE.test("3. 0 <= key: key too small", StartLookupTest::keyTooSmall);
        DUE.test("3. key <= MAX_KEY: key too large", StartLookupTest::keyTooLarge);
        DUE.test("A refused call changes nothing at all", StartLookupTest::refusedChangesNothing);
        DUE.test("Nothing else changes", StartLookupTest::changesNothingElse);
        DUE.test("A reader that finished (R_DONE) may be started again", StartLookupTest::startedAgainAndAgain);
        DUE.test("its old result is replaced by PENDING", StartLookupTest::oldResultIsReplaced);
        DUE.end();
    }

    private static void refused(LeftRightMap x, int r, int key) {
        DUE.due("startLookup(" + r + ", " + key + ")", x.startLookup(r, key), false);
        DUE.changes("startLookup(" + r + ", " + key + "), refused");
    }

    /** Whatever the reader held before, these five are set and nothing else changes. */
    private static void taken(LeftRightMap x, int r, int key) {
        DUE.due("startLookup(" + r + ", " + key + ")", x.startLookup(r, key), true);
        String who = "r" + r;
        DUE.changes("startLookup(" + r + ", " + key + ")", who + " key", key,
            who + " result", LeftRightMap.PENDING, who + " version", LeftRightMap.NONE,
            who + " side", LeftRightMap.NONE, who + " phase", LeftRightMap.R_READ_VERSION);
    }

    private static LeftRightMap fresh(int readers) {
        LeftRightMap x = new LeftRightMap(4, readers, 2);
        DUE.watch(x);
        return x;
    }

    private static void readerTooSmall() {
        for (int readers : new int[] {1, 3, 8}) {
            LeftRightMap x = fresh(readers);
            for (int r : new int[] {-1, -2, -8, MIN + 1, MIN}) {
                refused(x, r, 5);
            }
            taken(x, 0, 5);
        }
    }

    private static void readerTooLarge() {
        for (int readers : new int[] {1, 3, 7, 8}) {
            LeftRightMap x = fresh(readers);
            for (int r : new int[] {readers, readers + 1, readers + 2, 8, 9, MAX - 1, MAX}) {
                refused(x, r, 5);
            }
            taken(x, readers - 1, 5);
        }
    }

    private static void startsWhenIdle() {
        for (int readers = 1; readers <= 8; readers++) {
            LeftRightMap x = fresh(readers);
            for (int r = readers - 1; r >= 0; r--) {
                taken(x, r, 10 * r);
            }
        }
    }

    private static void refusesWhileActive() {
        for (int phase = LeftRightMap.R_READ_VERSION; phase <= LeftRightMap.R_DEPART; phase++) {
            LeftRightMap x = new LeftRightMap(4, 3, 2);
            x.startLookup(1, 5);
            Drive.readerTo(x, 1, phase);
            DUE.due("reader(1, FIELD_PHASE)", x.reader(1, LeftRightMap.FIELD_PHASE), phase);
            DUE.watch(x);
            refused(x, 1, 6);
            refused(x, 1, 5);
            taken(x, 0, 6);
            taken(x, 2, 6);
        }
    }

    private static void startsWhenDone() {
        LeftRightMap x = new LeftRightMap(4, 2, 1);
        Drive.put(x, 0, 5, 50);
        Drive.lookup(x, 1, 5);
        DUE.due("reader(1, FIELD_PHASE)", x.reader(1, LeftRightMap.FIELD_PHASE), LeftRightMap.R_DONE);
        DUE.watch(x);
        taken(x, 1, 6);
    }

    private static void keyTooSmall() {
        LeftRightMap x = fresh(3);
        for (int key : new int[] {-1, -2, -3, -4, MIN + 1, MIN}) {
            refused(x, 1, key);
        }
        taken(x, 1, 0);
    }

    private static void keyTooLarge() {
        LeftRightMap x = fresh(3);
        for (int key : new int[] {10000, 10001, 999999, MAX - 1, MAX}) {
            refused(x, 1, key);
        }
        taken(x, 1, 9999);
    }

    /** Each of the three tests fails alone and together with the others, on a reader of every sort. */
    private static void refusedChangesNothing() {
        LeftRightMap x = Drive.busy();
        DUE.watch(x);
        for (int r : new int[] {MIN, -1, 4, 8, MAX}) {
            for (int key : new int[] {MIN, -1, 5, 10000, MAX}) {
                refused(x, r, key);
            }
        }
        for (int r : new int[] {1, 2}) {
            for (int key : new int[] {MIN, -1, 5, 10000, MAX}) {
                refused(x, r, key);
            }
        }
        for (int r : new int[] {0, 3}) {
            for (int key : new int[] {MIN, -1, 10000, MAX}) {
                refused(x, r, key);
            }
        }
    }

    private static void changesNothingElse() {
        LeftRightMap x = Drive.busy();
        DUE.watch(x);
        taken(x, 0, 6);
        taken(x, 3, 6);
    }

    private static void startedAgainAndAgain() {
        LeftRightMap x = new LeftRightMap(4, 1, 1);
        for (int value = 0; value < 5; value++) {
            Drive.put(x, 0, 7, value);
            DUE.due("startLookup(0, 7)", x.startLookup(0, 7), true);
            DUE.due("run(64)", x.run(64), 5);
            DUE.due("reader(0, FIELD_RESULT)", x.reader(0, LeftRightMap.FIELD_RESULT), value);
        }
    }

    private static void oldResultIsReplaced() {
        LeftRightMap x = new LeftRightMap(4, 1, 1);
        Drive.put(x, 0, 5, 50);
        Drive.lookup(x, 0, 5);
        DUE.due("old result", x.reader(0, LeftRightMap.FIELD_RESULT), 50);
        DUE.due("startLookup(0, 10000)", x.startLookup(0, 10000), false);
        DUE.due("result after a refused start", x.reader(0, LeftRightMap.FIELD_RESULT), 50);
        DUE.due("startLookup(0, 5)", x.startLookup(0, 5), true);
        for (int phase = LeftRightMap.R_READ_VERSION; phase <= LeftRightMap.R_LOOKUP; phase++) {
            DUE.due("result in phase " + phase, x.reader(0, LeftRightMap.FIELD_RESULT), LeftRightMap.PENDING);
            x.step(0);
        }
        DUE.due("new result", x.reader(0, LeftRightMap.FIELD_RESULT), 50);
    }
}
