/** Promise 5: the five steps of a reader. */
public final class ReaderStepTest {
    private static final int MOVED = Stepping.MOVED;
    private static final Due DUE = new Due();

    public static void main(String[] args) {
        DUE.test("R_READ_VERSION: version := versionIndex", ReaderStepTest::readsVersion);
        DUE.test("R_ARRIVE: indicator[version] := indicator[version] + 1", ReaderStepTest::arrives);
        DUE.test("R_ARRIVE with a version that is no longer versionIndex", ReaderStepTest::arrivesLate);
        DUE.test("R_READ_SIDE: side := leftRight", ReaderStepTest::readsSide);
        DUE.test("R_LOOKUP: result := the value of key in instance side", ReaderStepTest::looksUp);
        DUE.test("R_LOOKUP: or ABSENT if key is not there", ReaderStepTest::looksUpAbsent);
        DUE.test("R_LOOKUP in instance side, not in instance leftRight", ReaderStepTest::looksUpChosenSide);
        DUE.test("R_DEPART: indicator[version] := indicator[version] - 1", ReaderStepTest::departs);
        DUE.test("R_DEPART with a version that is no longer versionIndex", ReaderStepTest::departsLate);
        DUE.test("Every reader step answers STEP_MOVED", ReaderStepTest::neverWaits);
        DUE.end();
    }

    /** After the put both bits are 1 if the number of puts is odd. */
    private static Stepping afterPuts(int puts, int readers) {
        LeftRightMap x = new LeftRightMap(4, readers, 2);
        for (int i = 0; i < puts; i++) {
            Drive.put(x, 0, 7, 70 + i);
        }
        return new Stepping(DUE, x);
    }

    private static void readsVersion() {
        for (int puts = 0; puts < 3; puts++) {
            Stepping s = afterPuts(puts, 2);
            s.lookup(1, 7);
            s.step("R_READ_VERSION", 1, MOVED, "r1 version", puts % 2, "r1 phase", LeftRightMap.R_ARRIVE);
        }
        // Between the flip and the toggle the two bits differ.
        Stepping s = afterPuts(0, 1);
        s.x.startPut(0, 7, 70);
        Drive.writerTo(s.x, 0, LeftRightMap.W_TOGGLE);
        s.lookup(0, 7);
        s.step("R_READ_VERSION", 0, MOVED, "r0 version", 0, "r0 phase", LeftRightMap.R_ARRIVE);
        s.step("R_ARRIVE", 0, MOVED, "indicator0", 1, "r0 phase", LeftRightMap.R_READ_SIDE);
        s.step("R_READ_SIDE", 0, MOVED, "r0 side", 1, "r0 phase", LeftRightMap.R_LOOKUP);
    }

    private static void arrives() {
        for (int puts = 0; puts < 2; puts++) {
            Stepping s = afterPuts(puts, 8);
            for (int r = 0; r < 8; r++) {
                s.x.startLookup(r, 7);
                s.x.step(r);
            }
            s.watch();
            for (int r = 0; r < 8; r++) {
                s.step("R_ARRIVE", r, MOVED, "indicator" + puts, r + 1,
                    "r" + r + " phase", LeftRightMap.R_READ_SIDE);
            }
        }
    }

    private static void arrivesLate() {
        Stepping s = afterPuts(0, 1);
        s.x.startLookup(0, 7);
        s.x.step(0);
        Drive.put(s.x, 0, 7, 70);
        DUE.due("global(G_VERSION)", s.x.global(LeftRightMap.G_VERSION), 1);
        s.watch();
        s.step("R_ARRIVE", 0, MOVED, "indicator0", 1, "r0 phase", LeftRightMap.R_READ_SIDE);
    }

    private static void readsSide() {
        for (int puts = 0; puts < 3; puts++) {
            Stepping s = afterPuts(puts, 2);
            s.x.startLookup(1, 7);
            Drive.readerTo(s.x, 1, LeftRightMap.R_READ_SIDE);
            s.watch();
            s.step("R_READ_SIDE", 1, MOVED, "r1 side", puts % 2, "r1 phase", LeftRightMap.R_LOOKUP);
        }
    }

    private static void looksUp() {
        int[][] pairs = {{0, 0}, {0, 999999}, {9999, 0}, {9999, 999999}, {7, 70}};
        for (int[] pair : pairs) {
            for (int puts = 1; puts <= 2; puts++) {
                LeftRightMap x = new LeftRightMap(4, 1, 1);
                for (int i = 0; i < puts; i++) {
                    Drive.put(x, 0, pair[0], pair[1]);
                }
                x.startLookup(0, pair[0]);
                Drive.readerTo(x, 0, LeftRightMap.R_LOOKUP);
                Stepping s = new Stepping(DUE, x);
                s.step("R_LOOKUP", 0, MOVED, "r0 result", pair[1], "r0 phase", LeftRightMap.R_DEPART);
            }
        }
    }

    private static void lookedUpAbsent(LeftRightMap x, int key) {
        x.startLookup(0, key);
        Drive.readerTo(x, 0, LeftRightMap.R_LOOKUP);
        Stepping s = new Stepping(DUE, x);
        s.step("R_LOOKUP", 0, MOVED, "r0 result", LeftRightMap.ABSENT, "r0 phase", LeftRightMap.R_DEPART);
    }

    private static void looksUpAbsent() {
        lookedUpAbsent(new LeftRightMap(4, 1, 1), 0);
        lookedUpAbsent(new LeftRightMap(4, 1, 1), 9999);
        LeftRightMap full = new LeftRightMap(4, 1, 1);
        Drive.fill(full, 4);
        lookedUpAbsent(full, 4);
        LeftRightMap emptied = new LeftRightMap(4, 1, 1);
        Drive.put(emptied, 0, 0, 5);
        Drive.remove(emptied, 0, 0);
        lookedUpAbsent(emptied, 0);
    }

    private static void looksUpChosenSide() {
        Stepping s = afterPuts(1, 2);
        s.x.startLookup(0, 7);
        Drive.readerTo(s.x, 0, LeftRightMap.R_LOOKUP);
        s.x.startRemove(1, 7);
        Drive.writerTo(s.x, 1, LeftRightMap.W_DRAIN_NEXT);
        DUE.due("peek(7)", s.x.peek(7), LeftRightMap.ABSENT);
        s.watch();
        s.step("R_LOOKUP", 0, MOVED, "r0 result", 70, "r0 phase", LeftRightMap.R_DEPART);
        s.x.startLookup(1, 7);
        Drive.readerTo(s.x, 1, LeftRightMap.R_LOOKUP);
        s.watch();
        s.step("R_LOOKUP", 1, MOVED, "r1 result", LeftRightMap.ABSENT, "r1 phase", LeftRightMap.R_DEPART);
    }

    private static void departs() {
        for (int puts = 0; puts < 2; puts++) {
            Stepping s = afterPuts(puts, 8);
            for (int r = 0; r < 8; r++) {
                s.x.startLookup(r, 7);
                Drive.readerTo(s.x, r, LeftRightMap.R_DEPART);
            }
            s.watch();
            for (int r = 0; r < 8; r++) {
                s.step("R_DEPART", r, MOVED, "indicator" + puts, 7 - r,
                    "r" + r + " phase", LeftRightMap.R_DONE);
            }
        }
    }

    private static void departsLate() {
        Stepping s = afterPuts(0, 2);
        s.x.startLookup(0, 7);
        Drive.readerTo(s.x, 0, LeftRightMap.R_DEPART);
        s.x.startPut(0, 7, 70);
        Drive.writerTo(s.x, 0, LeftRightMap.W_DRAIN_PREV);
        s.x.startLookup(1, 7);
        Drive.readerTo(s.x, 1, LeftRightMap.R_DEPART);
        s.watch();
        s.step("R_DEPART", 0, MOVED, "indicator0", 0, "r0 phase", LeftRightMap.R_DONE);
        s.step("R_DEPART", 1, MOVED, "indicator1", 0, "r1 phase", LeftRightMap.R_DONE);
    }

    /** In each phase of a writer that holds the lock, a reader goes all the way. */
    private static void neverWaits() {
        for (int phase = LeftRightMap.W_LOCK; phase <= LeftRightMap.W_DONE; phase++) {
            LeftRightMap x = new LeftRightMap(4, 1, 1);
            x.startPut(0, 7, 70);
            Drive.writerTo(x, 0, phase);
            x.startLookup(0, 7);
            for (int i = 0; i < 5; i++) {
                DUE.due("step(0) beside writer phase " + phase, x.step(0), LeftRightMap.STEP_MOVED);
            }
            DUE.due("step(0) when done", x.step(0), LeftRightMap.STEP_NONE);
        }
    }
}
