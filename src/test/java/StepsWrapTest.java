/** Promises 1 and 5: steps wraps as a Java int does. The steps are really done, some 2 to the 31 of them. */
public final class StepsWrapTest {
    private static final int MAX = Integer.MAX_VALUE;
    private static final int MIN = Integer.MIN_VALUE;
    private static final Due DUE = new Due();

    public static void main(String[] args) {
        DUE.test("one more than Integer.MAX_VALUE is Integer.MIN_VALUE: a step that waits",
            StepsWrapTest::wrapsInAStepThatWaits);
        DUE.test("one more than Integer.MAX_VALUE is Integer.MIN_VALUE: a step that moves",
            StepsWrapTest::wrapsInAStepThatMoves);
        DUE.test("the number of steps done so far by step and run together; it wraps as a Java int does",
            StepsWrapTest::wrapsInARun);
        DUE.end();
    }

    /** Writer 0 (agent 1) has the lock and stays there, writer 1 (agent 2) waits for it again and again. */
    private static LeftRightMap withSteps(int steps) {
        LeftRightMap x = new LeftRightMap(4, 1, 2);
        x.startPut(0, 1, 1);
        x.step(1);
        x.startPut(1, 2, 2);
        int waited = 0;
        for (int done = 1; done < steps; done++) {
            waited += x.step(2) == LeftRightMap.STEP_WAITED ? 1 : 0;
        }
        DUE.due("waits", waited, steps - 1);
        DUE.due("global(G_STEPS)", x.global(LeftRightMap.G_STEPS), steps);
        DUE.watch(x);
        return x;
    }

    private static void wrapsInAStepThatWaits() {
        LeftRightMap x = withSteps(MAX - 1);
        DUE.due("step(2)", x.step(2), LeftRightMap.STEP_WAITED);
        DUE.changes("step(2)", "steps", MAX);
        DUE.due("step(2)", x.step(2), LeftRightMap.STEP_WAITED);
        DUE.changes("step(2)", "steps", MIN);
        DUE.due("step(2)", x.step(2), LeftRightMap.STEP_WAITED);
        DUE.changes("step(2)", "steps", MIN + 1);
    }

    private static void wrapsInAStepThatMoves() {
        LeftRightMap x = withSteps(MAX);
        DUE.due("step(0) of nobody active", x.step(0), LeftRightMap.STEP_NONE);
        DUE.due("run(0)", x.run(0), 0);
        DUE.due("startLookup(0, 1)", x.startLookup(0, 1), true);
        DUE.changes("startLookup(0, 1)", "r0 key", 1, "r0 phase", LeftRightMap.R_READ_VERSION);
        DUE.due("step(0)", x.step(0), LeftRightMap.STEP_MOVED);
        DUE.changes("step(0)", "r0 version", 0, "r0 phase", LeftRightMap.R_ARRIVE, "steps", MIN);
        DUE.due("step(1)", x.step(1), LeftRightMap.STEP_MOVED);
        DUE.changes("step(1)", "w0 side", 1, "w0 result", LeftRightMap.ABSENT, "i1 1", 1,
            "w0 phase", LeftRightMap.W_FLIP, "steps", MIN + 1);
    }

    private static void wrapsInARun() {
        LeftRightMap x = withSteps(MAX - 3);
        DUE.due("run(3)", x.run(3), 3);
        DUE.due("global(G_STEPS) after run(3)", x.global(LeftRightMap.G_STEPS), MAX);
        DUE.due("run(1)", x.run(1), 1);
        DUE.due("global(G_STEPS) after run(1)", x.global(LeftRightMap.G_STEPS), MIN);
        DUE.due("run(2)", x.run(2), 2);
        DUE.due("global(G_STEPS) after run(2)", x.global(LeftRightMap.G_STEPS), MIN + 2);

        // Writer 0 has six steps left, between them writer 1 waits five times, then does its seven.
        LeftRightMap y = withSteps(MAX - 5);
        DUE.due("run(64)", y.run(64), 6 + 5 + 7);
        DUE.due("global(G_STEPS) after run(64)", y.global(LeftRightMap.G_STEPS), MIN + 12);
    }
}
