/** Promises 1 and 5: steps wraps as a Java int does. The steps are really done, some 2 to the 31 of them. */
public final class StepsWrapTest {
    private static final Due DUE = new Due();

    public static void main(String[] args) {
        LeftRightMap x = new LeftRightMap(4, 1, 2);
        x.startPut(0, 1, 1);
        x.step(1);
        x.startPut(1, 2, 2);
        int waited = 0;
        for (int done = 1; done < Integer.MAX_VALUE - 1; done++) {
            waited += x.step(2) == LeftRightMap.STEP_WAITED ? 1 : 0;
        }
        DUE.due("waits", waited, Integer.MAX_VALUE - 2);
        DUE.due("global(G_STEPS)", x.global(LeftRightMap.G_STEPS), Integer.MAX_VALUE - 1);
        DUE.watch(x);
        DUE.due("step(2)", x.step(2), LeftRightMap.STEP_WAITED);
        DUE.changes("step(2)", "steps", Integer.MAX_VALUE);
        DUE.due("step(2)", x.step(2), LeftRightMap.STEP_WAITED);
        DUE.changes("step(2)", "steps", Integer.MIN_VALUE);
        DUE.due("step(2)", x.step(2), LeftRightMap.STEP_WAITED);
        DUE.changes("step(2)", "steps", Integer.MIN_VALUE + 1);
        DUE.due("run(2)", x.run(2), 2);
        DUE.due("global(G_STEPS) after run(2)", x.global(LeftRightMap.G_STEPS), Integer.MIN_VALUE + 3);
        DUE.end();
    }
}
