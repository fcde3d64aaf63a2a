/** Promise 5: the steps of a writer that wait, and what such a step may change. */
public final class WriterWaitTest {
    private static final int MOVED = Stepping.MOVED;
    private static final int WAITED = Stepping.WAITED;
    private static final Due DUE = new Due();

    public static void main(String[] args) {
        DUE.test("W_LOCK: Otherwise nothing changes but steps, and it answers STEP_WAITED",
            WriterWaitTest::waitsForTheLock);
        DUE.test("W_LOCK: lock is NONE again after W_APPLY_OLD", WriterWaitTest::lockIsFreeAfterApplyOld);
        DUE.test("W_LOCK: whoever steps first takes the free lock", WriterWaitTest::firstToStepTakesTheLock);
        DUE.test("W_DRAIN_NEXT: If indicator[1 - version] != 0, only version and steps change",
            WriterWaitTest::waitsForNextReader);
        DUE.test("W_DRAIN_NEXT: waits while the indicator is 2, and while it is 1",
            WriterWaitTest::waitsForSeveralNextReaders);
        DUE.test("W_DRAIN_NEXT: Else phase := W_TOGGLE, whatever indicator[version] is",
            WriterWaitTest::nextIgnoresTheOtherIndicator);
        DUE.test("W_DRAIN_PREV: if indicator[version] != 0, nothing changes but steps",
            WriterWaitTest::waitsForPreviousReader);
        DUE.test("W_DRAIN_PREV: waits while the indicator is 8, 7, .. 1",
            WriterWaitTest::waitsForSeveralPreviousReaders);
        DUE.test("W_DRAIN_PREV: Else phase := W_APPLY_OLD, whatever indicator[1 - version] is",
            WriterWaitTest::previousIgnoresTheOtherIndicator);
        DUE.test("a reader that has read its version and not arrived holds nobody up",
            WriterWaitTest::notYetArrived);
        DUE.end();
    }

    private static void waitsForTheLock() {
        for (int phase = LeftRightMap.W_APPLY_IDLE; phase <= LeftRightMap.W_APPLY_OLD; phase++) {
            LeftRightMap x = new LeftRightMap(4, 2, 4);
            x.startPut(2, 7, 70);
            Drive.writerTo(x, 2, phase);
            x.startPut(0, 1, 10);
            x.startRemove(1, 7);
            x.startPut(3, 7, 71);
            Stepping s = new Stepping(DUE, x);
            for (int w : new int[] {0, 1, 3, 0}) {
                s.step("W_LOCK beside phase " + phase, 2 + w, WAITED);
            }
        }
    }

    private static void lockIsFreeAfterApplyOld() {
        LeftRightMap x = new LeftRightMap(4, 1, 2);
        x.startPut(1, 7, 70);
        Drive.writerTo(x, 1, LeftRightMap.W_APPLY_OLD);
        Stepping s = new Stepping(DUE, x);
        s.put(0, 7, 71);
        s.step("W_LOCK", 1, WAITED);
        s.step("W_APPLY_OLD", 2, MOVED, "i0 7", 70, "lock", LeftRightMap.NONE, "w1 phase", LeftRightMap.W_DONE);
        s.step("W_LOCK", 1, MOVED, "lock", 0, "w0 phase", LeftRightMap.W_APPLY_IDLE);
    }

    private static void firstToStepTakesTheLock() {
        LeftRightMap x = new LeftRightMap(4, 1, 3);
        x.startPut(0, 1, 1);
        x.startPut(1, 2, 2);
        x.startPut(2, 3, 3);
        Stepping s = new Stepping(DUE, x);
        s.step("W_LOCK", 3, MOVED, "lock", 2, "w2 phase", LeftRightMap.W_APPLY_IDLE);
        s.step("W_LOCK", 1, WAITED);
        s.step("W_LOCK", 2, WAITED);
        Drive.writerTo(x, 2, LeftRightMap.W_DONE);
        s.watch();
        s.step("W_LOCK", 2, MOVED, "lock", 1, "w1 phase", LeftRightMap.W_APPLY_IDLE);
        s.step("W_LOCK", 1, WAITED);
    }

    /**
     * Readers that read the version, then let a whole put pass and arrive only now: they stand in the
     * counter that the next put has to see empty first. That put by writer 0 is in W_DRAIN_NEXT.
     */
    private static Stepping lateReaders(int late, int putsBefore) {
        LeftRightMap x = new LeftRightMap(4, 4, 1);
        for (int i = 0; i < putsBefore; i++) {
            Drive.put(x, 0, 7, 60 + i);
        }
        for (int r = 0; r < late; r++) {
            x.startLookup(r, 7);
            x.step(r);
        }
        Drive.put(x, 0, 7, 70);
        for (int r = 0; r < late; r++) {
            x.step(r);
        }
        x.startPut(0, 7, 71);
        Drive.writerTo(x, 0, LeftRightMap.W_DRAIN_NEXT);
        return new Stepping(DUE, x);
    }

    private static void waitsForNextReader() {
        for (int puts = 0; puts < 2; puts++) {
            Stepping s = lateReaders(1, puts);
            int side = puts % 2;
            s.step("W_DRAIN_NEXT with a reader", 4, WAITED, "w0 version", 1 - puts);
            s.step("W_DRAIN_NEXT with a reader", 4, WAITED);
            s.step("R_READ_SIDE", 0, MOVED, "r0 side", side, "r0 phase", LeftRightMap.R_LOOKUP);
            s.step("W_DRAIN_NEXT with a reader", 4, WAITED);
            s.step("R_LOOKUP", 0, MOVED, "r0 result", 71, "r0 phase", LeftRightMap.R_DEPART);
            s.step("W_DRAIN_NEXT with a reader", 4, WAITED);
            s.step("R_DEPART", 0, MOVED, "indicator" + puts, 0, "r0 phase", LeftRightMap.R_DONE);
            s.step("W_DRAIN_NEXT", 4, MOVED, "w0 phase", LeftRightMap.W_TOGGLE);
        }
    }

    private static void waitsForSeveralNextReaders() {
        Stepping s = lateReaders(3, 0);
        s.step("W_DRAIN_NEXT with 3 readers", 4, WAITED, "w0 version", 1);
        Drive.readerTo(s.x, 1, LeftRightMap.R_DONE);
        s.watch();
        s.step("W_DRAIN_NEXT with 2 readers", 4, WAITED);
        Drive.readerTo(s.x, 0, LeftRightMap.R_DONE);
        s.watch();
        s.step("W_DRAIN_NEXT with 1 reader", 4, WAITED);
        Drive.readerTo(s.x, 2, LeftRightMap.R_DONE);
        s.watch();
        s.step("W_DRAIN_NEXT", 4, MOVED, "w0 phase", LeftRightMap.W_TOGGLE);
    }

    private static void nextIgnoresTheOtherIndicator() {
        for (int puts = 0; puts < 2; puts++) {
            LeftRightMap x = new LeftRightMap(4, 2, 1);
            for (int i = 0; i < puts; i++) {
                Drive.put(x, 0, 7, 60 + i);
            }
            x.startLookup(0, 7);
            x.startLookup(1, 7);
            Drive.steps(x, 0, 2);
            Drive.steps(x, 1, 3);
            x.startPut(0, 7, 70);
            Drive.writerTo(x, 0, LeftRightMap.W_DRAIN_NEXT);
            Stepping s = new Stepping(DUE, x);
            s.step("W_DRAIN_NEXT", 2, MOVED, "w0 version", puts, "w0 phase", LeftRightMap.W_TOGGLE);
        }
    }

    /** Readers that arrived before the put; writer 0 is in W_DRAIN_PREV. */
    private static Stepping earlyReaders(int early, int putsBefore) {
        LeftRightMap x = new LeftRightMap(4, 8, 1);
        for (int i = 0; i < putsBefore; i++) {
            Drive.put(x, 0, 7, 60 + i);
        }
        for (int r = 0; r < early; r++) {
            x.startLookup(r, 7);
            Drive.steps(x, r, 2);
        }
        x.startPut(0, 7, 70);
        Drive.writerTo(x, 0, LeftRightMap.W_DRAIN_PREV);
        return new Stepping(DUE, x);
    }

    private static void waitsForPreviousReader() {
        for (int puts = 0; puts < 2; puts++) {
            Stepping s = earlyReaders(1, puts);
            s.step("W_DRAIN_PREV with a reader", 8, WAITED);
            s.step("W_DRAIN_PREV with a reader", 8, WAITED);
            s.step("R_READ_SIDE", 0, MOVED, "r0 side", 1 - puts, "r0 phase", LeftRightMap.R_LOOKUP);
            s.step("W_DRAIN_PREV with a reader", 8, WAITED);
            s.step("R_LOOKUP", 0, MOVED, "r0 result", 70, "r0 phase", LeftRightMap.R_DEPART);
            s.step("W_DRAIN_PREV with a reader", 8, WAITED);
            s.step("R_DEPART", 0, MOVED, "indicator" + puts, 0, "r0 phase", LeftRightMap.R_DONE);
            s.step("W_DRAIN_PREV", 8, MOVED, "w0 phase", LeftRightMap.W_APPLY_OLD);
        }
    }

    private static void waitsForSeveralPreviousReaders() {
        Stepping s = earlyReaders(8, 0);
        for (int r = 7; r >= 0; r--) {
            s.step("W_DRAIN_PREV with " + (r + 1) + " readers", 8, WAITED);
            Drive.readerTo(s.x, r, LeftRightMap.R_DONE);
            s.watch();
        }
        s.step("W_DRAIN_PREV", 8, MOVED, "w0 phase", LeftRightMap.W_APPLY_OLD);
    }

    private static void previousIgnoresTheOtherIndicator() {
        for (int puts = 0; puts < 2; puts++) {
            Stepping s = earlyReaders(0, puts);
            s.x.startLookup(5, 7);
            Drive.steps(s.x, 5, 3);
            s.watch();
            s.step("W_DRAIN_PREV", 8, MOVED, "w0 phase", LeftRightMap.W_APPLY_OLD);
        }
    }

    private static void notYetArrived() {
        LeftRightMap x = new LeftRightMap(4, 1, 1);
        x.startLookup(0, 7);
        x.step(0);
        x.startPut(0, 7, 70);
        for (int i = 0; i < 7; i++) {
            DUE.due("step(1) beside a reader in R_ARRIVE", x.step(1), LeftRightMap.STEP_MOVED);
        }
        DUE.due("writer(0, FIELD_PHASE)", x.writer(0, LeftRightMap.FIELD_PHASE), LeftRightMap.W_DONE);
    }
}
