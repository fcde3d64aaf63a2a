/** Promise 6: run goes round the active agents from the cursor on. */
public final class RunTest {
    private static final Due DUE = new Due();

    public static void main(String[] args) {
        nothingToDo();
        goesRoundInOrder();
        skipsIdleAgents();
        stopsWhenNobodyIsActive();
        clampsItsArgument();
        waitsCountAsSteps();
        stepLeavesCursorAlone();
        DUE.end();
    }

    private static void nothingToDo() {
        LeftRightMap x = new LeftRightMap(4, 2, 2);
        int[] numbers = {0, -1, Integer.MIN_VALUE, 1, 64, 65, Integer.MAX_VALUE};
        DUE.watch(x);
        for (int n : numbers) {
            DUE.due("run(" + n + ") with nobody active", x.run(n), 0);
            DUE.changes("run(" + n + ") with nobody active");
        }
        x.startLookup(1, 5);
        x.run(2);
        DUE.watch(x);
        int[] none = {0, -1, -64, Integer.MIN_VALUE};
        for (int n : none) {
            DUE.due("run(" + n + ")", x.run(n), 0);
            DUE.changes("run(" + n + ")");
        }
        x.run(64);
        DUE.watch(x);
        DUE.due("run(64) with all done", x.run(64), 0);
        DUE.changes("run(64) with all done");
    }

    private static void goesRoundInOrder() {
        LeftRightMap x = new LeftRightMap(4, 2, 2);
        x.startLookup(0, 1);
        x.startLookup(1, 1);
        x.startPut(0, 1, 10);
        x.startRemove(1, 1);
        DUE.watch(x);
        DUE.due("run(1)", x.run(1), 1);
        DUE.changes("run(1)", "r0 version", 0, "r0 phase", LeftRightMap.R_ARRIVE, "cursor", 1, "steps", 1);
        DUE.due("run(1)", x.run(1), 1);
        DUE.changes("run(1)", "r1 version", 0, "r1 phase", LeftRightMap.R_ARRIVE, "cursor", 2, "steps", 2);
        DUE.due("run(1)", x.run(1), 1);
        DUE.changes("run(1)", "lock", 0, "w0 phase", LeftRightMap.W_APPLY_IDLE, "cursor", 3, "steps", 3);
        DUE.due("run(1)", x.run(1), 1);
        DUE.changes("run(1) that waits", "cursor", 0, "steps", 4);
        DUE.due("run(6)", x.run(6), 6);
        DUE.changes("run(6)", "indicator0", 2, "r0 phase", LeftRightMap.R_LOOKUP, "r0 side", 0,
            "r1 phase", LeftRightMap.R_LOOKUP, "r1 side", 0, "w0 phase", LeftRightMap.W_FLIP,
            "w0 side", 1, "w0 result", LeftRightMap.ABSENT, "i1 1", 10, "cursor", 2, "steps", 10);
    }

    private static void skipsIdleAgents() {
        LeftRightMap x = new LeftRightMap(4, 8, 4);
        x.startLookup(3, 1);
        x.startPut(2, 1, 10);
        DUE.watch(x);
        DUE.due("run(1)", x.run(1), 1);
        DUE.changes("run(1)", "r3 version", 0, "r3 phase", LeftRightMap.R_ARRIVE, "cursor", 4, "steps", 1);
        DUE.due("run(1)", x.run(1), 1);
        DUE.changes("run(1)", "lock", 2, "w2 phase", LeftRightMap.W_APPLY_IDLE, "cursor", 11, "steps", 2);
        DUE.due("run(1)", x.run(1), 1);
        DUE.changes("run(1)", "indicator0", 1, "r3 phase", LeftRightMap.R_READ_SIDE, "cursor", 4, "steps", 3);
        x.startLookup(4, 1);
        x.startLookup(2, 1);
        DUE.watch(x);
        DUE.due("run(1)", x.run(1), 1);
        DUE.changes("run(1)", "r4 version", 0, "r4 phase", LeftRightMap.R_ARRIVE, "cursor", 5, "steps", 4);
    }

    private static void stopsWhenNobodyIsActive() {
        LeftRightMap x = new LeftRightMap(4, 3, 1);
        x.startLookup(1, 9);
        DUE.watch(x);
        DUE.due("run(64)", x.run(64), 5);
        DUE.changes("run(64)", "r1 version", 0, "r1 side", 0, "r1 result", LeftRightMap.ABSENT,
            "r1 phase", LeftRightMap.R_DONE, "cursor", 2, "steps", 5);
        x.startPut(0, 9, 90);
        DUE.due("run(7)", x.run(7), 7);
        DUE.due("global(G_CURSOR) behind the last agent", x.global(LeftRightMap.G_CURSOR), 0);
        x.startPut(0, 9, 91);
        DUE.due("run(6)", x.run(6), 6);
        DUE.due("run(6)", x.run(6), 1);
    }

    /** Every agent is active after four steps, the last writer waiting for the lock. */
    private static LeftRightMap allActive() {
        LeftRightMap x = new LeftRightMap(4, 1, 2);
        x.startPut(0, 1, 1);
        x.step(1);
        x.startPut(1, 2, 2);
        x.step(2);
        x.startLookup(0, 1);
        x.step(0);
        x.step(0);
        return x;
    }

    private static void clampsItsArgument() {
        int[] numbers = {63, 64, 65, 1000, Integer.MAX_VALUE};
        for (int n : numbers) {
            LeftRightMap x = new LeftRightMap(4, 8, 4);
            for (int r = 0; r < 8; r++) {
                x.startLookup(r, r);
            }
            for (int w = 0; w < 4; w++) {
                x.startPut(w, w, w);
            }
            int due = Math.min(64, n);
            DUE.due("run(" + n + ")", x.run(n), due);
            DUE.due("global(G_STEPS) after run(" + n + ")", x.global(LeftRightMap.G_STEPS), due);
        }
    }

    private static void waitsCountAsSteps() {
        LeftRightMap x = allActive();
        DUE.watch(x);
        DUE.due("global(G_STEPS)", x.global(LeftRightMap.G_STEPS), 4);
        DUE.due("run(3)", x.run(3), 3);
        DUE.changes("run(3)", "r0 side", 0, "r0 phase", LeftRightMap.R_LOOKUP, "w0 side", 1,
            "w0 result", LeftRightMap.ABSENT, "w0 phase", LeftRightMap.W_FLIP, "i1 1", 1,
            "cursor", 0, "steps", 7);
    }

    private static void stepLeavesCursorAlone() {
        LeftRightMap x = allActive();
        DUE.due("global(G_CURSOR) after steps", x.global(LeftRightMap.G_CURSOR), 0);
        x.run(2);
        DUE.due("global(G_CURSOR) after run(2)", x.global(LeftRightMap.G_CURSOR), 2);
        x.step(0);
        x.step(1);
        x.step(2);
        DUE.due("global(G_CURSOR) after more steps", x.global(LeftRightMap.G_CURSOR), 2);
    }
}
