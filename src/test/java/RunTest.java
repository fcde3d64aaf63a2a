import java.util.Map;

/** Promise 6: run goes round the active agents from the cursor on. */
public final class RunTest {
    private static final int MIN = Integer.MIN_VALUE;
    private static final int MAX = Integer.MAX_VALUE;
    private static final int[][] SIZES = {{1, 1}, {2, 1}, {1, 4}, {8, 1}, {3, 2}, {8, 4}};
    private static final Due DUE = new Due();

    public static void main(String[] args) {
        DUE.test("When n is 0 or less it answers 0 and changes nothing", RunTest::nIsZeroOrLess);
        DUE.test("n is clamped to 0..64: n above 64", RunTest::nAbove64);
        DUE.test("n is clamped to 0..64: n between", RunTest::nBetween);
        DUE.test("or when no agent is active at the start: all idle", RunTest::allIdle);
        DUE.test("or when no agent is active at the start: all done, the cursor not 0", RunTest::allDone);
        DUE.test("if none is active, stop at once", RunTest::stopsAtOnce);
        DUE.test("stopping because no agent is active leaves cursor as it was", RunTest::stoppingLeavesCursor);
        DUE.test("look at agents cursor, cursor + 1, ... (numbers taken mod T), at most T of them",
            RunTest::findsTheOnlyActiveOne);
        DUE.test("and take the first active one", RunTest::takesTheFirstActiveOne);
        DUE.test("cursor := (that agent + 1) mod T", RunTest::cursorGoesRound);
        DUE.test("do one step of that agent exactly as step(agent) does", RunTest::doesWhatStepDoes);
        DUE.test("steps grows by 1, whether the step moved or waited", RunTest::waitsGrowSteps);
        DUE.test("A step that answers STEP_WAITED counts as a step done", RunTest::waitsAreDone);
        DUE.test("cursor changes only after a step is done", RunTest::cursorStaysOtherwise);
        DUE.test("agents that finish within a run are left out from then on", RunTest::agentsFinishOnTheWay);
        DUE.end();
    }

    private static void ran(LeftRightMap x, int n, int done, Object... namesAndValues) {
        DUE.due("run(" + n + ")", x.run(n), done);
        DUE.changes("run(" + n + ")", namesAndValues);
    }

    /** All twelve agents at work, for more than 64 steps: eight lookups of 5, four puts of 7 and their waits. */
    private static LeftRightMap muchToDo() {
        LeftRightMap x = new LeftRightMap(4, 8, 4);
        for (int r = 0; r < 8; r++) {
            x.startLookup(r, r);
        }
        for (int w = 0; w < 4; w++) {
            x.startPut(w, w, w);
        }
        return x;
    }

    private static void nIsZeroOrLess() {
        LeftRightMap fresh = muchToDo();
        LeftRightMap onTheWay = muchToDo();
        onTheWay.run(17);
        for (LeftRightMap x : new LeftRightMap[] {fresh, onTheWay}) {
            DUE.watch(x);
            for (int n : new int[] {0, -1, -2, -63, -64, -65, MIN + 1, MIN}) {
                ran(x, n, 0);
            }
            DUE.due("run(1)", x.run(1), 1);
        }
    }

    private static void nAbove64() {
        for (int n : new int[] {64, 65, 66, 127, 128, 1000, MAX - 1, MAX}) {
            LeftRightMap x = muchToDo();
            LeftRightMap y = muchToDo();
            DUE.due("run(" + n + ")", x.run(n), 64);
            for (int i = 0; i < 64; i++) {
                DUE.due("run(1)", y.run(1), 1);
            }
            DUE.sameState("run(" + n + ")", State.of(x, 20), State.of(y, 20));
            DUE.due("global(G_STEPS)", x.global(LeftRightMap.G_STEPS), 64);
            DUE.due("a step more was there to do", x.run(1), 1);
        }
    }

    private static void nBetween() {
        for (int n = 1; n <= 64; n++) {
            LeftRightMap x = muchToDo();
            DUE.due("run(" + n + ")", x.run(n), n);
            DUE.due("global(G_STEPS)", x.global(LeftRightMap.G_STEPS), n);
        }
    }

    private static void allIdle() {
        for (int[] sizes : new int[][] {{1, 1}, {3, 2}, {8, 4}}) {
            LeftRightMap x = new LeftRightMap(4, sizes[0], sizes[1]);
            DUE.watch(x);
            for (int n : new int[] {MIN, -1, 0, 1, 2, 63, 64, 65, MAX}) {
                ran(x, n, 0);
            }
        }
    }

    private static void allDone() {
        LeftRightMap x = new LeftRightMap(4, 2, 2);
        x.startLookup(1, 5);
        x.startPut(0, 5, 50);
        x.run(64);
        DUE.due("global(G_CURSOR)", x.global(LeftRightMap.G_CURSOR), 3);
        DUE.watch(x);
        for (int n : new int[] {MIN, -1, 0, 1, 2, 63, 64, 65, MAX}) {
            ran(x, n, 0);
        }
    }

    private static void stopsAtOnce() {
        for (int n = 1; n <= 64; n++) {
            LeftRightMap x = new LeftRightMap(4, 3, 1);
            x.startLookup(1, 9);
            int done = n < 5 ? n : 5;
            DUE.due("run(" + n + ") of a lookup", x.run(n), done);
            DUE.due("global(G_STEPS)", x.global(LeftRightMap.G_STEPS), done);
            DUE.due("run(64) of the rest", x.run(64), 5 - done);
        }
    }

    private static void stoppingLeavesCursor() {
        for (int agent = 0; agent < 12; agent++) {
            LeftRightMap x = new LeftRightMap(4, 8, 4);
            start(x, agent);
            DUE.due("run(64) of agent " + agent, x.run(64), agent < 8 ? 5 : 7);
            DUE.due("global(G_CURSOR)", x.global(LeftRightMap.G_CURSOR), agent == 11 ? 0 : agent + 1);
            DUE.due("run(64) of nobody", x.run(64), 0);
            DUE.due("global(G_CURSOR)", x.global(LeftRightMap.G_CURSOR), agent == 11 ? 0 : agent + 1);
        }
    }

    private static void start(LeftRightMap x, int agent) {
        int readers = x.global(LeftRightMap.G_READERS);
        boolean started = agent < readers ? x.startLookup(agent, 1) : x.startPut(agent - readers, 1, 1);
        DUE.due("start of agent " + agent, started, true);
    }

    /** Nobody is active and the cursor stands where it is asked to. */
    private static LeftRightMap withCursor(int readers, int writers, int cursor) {
        int agents = readers + writers;
        LeftRightMap x = new LeftRightMap(4, readers, writers);
        int before = (cursor + agents - 1) % agents;
        start(x, before);
        x.run(1);
        Drive.steps(x, before, 7);
        DUE.due("global(G_CURSOR)", x.global(LeftRightMap.G_CURSOR), cursor);
        return x;
    }

    private static int phase(LeftRightMap x, int agent) {
        int readers = x.global(LeftRightMap.G_READERS);
        return agent < readers
            ? x.reader(agent, LeftRightMap.FIELD_PHASE)
            : x.writer(agent - readers, LeftRightMap.FIELD_PHASE);
    }

    private static void findsTheOnlyActiveOne() {
        for (int[] sizes : SIZES) {
            int agents = sizes[0] + sizes[1];
            for (int cursor = 0; cursor < agents; cursor++) {
                for (int agent = 0; agent < agents; agent++) {
                    LeftRightMap x = withCursor(sizes[0], sizes[1], cursor);
                    start(x, agent);
                    DUE.due("run(1)", x.run(1), 1);
                    DUE.due("phase of agent " + agent, phase(x, agent), 2);
                    DUE.due("global(G_CURSOR)", x.global(LeftRightMap.G_CURSOR), (agent + 1) % agents);
                }
            }
        }
    }

    private static void takesTheFirstActiveOne() {
        for (int[] sizes : SIZES) {
            int agents = sizes[0] + sizes[1];
            for (int cursor = 0; cursor < agents; cursor++) {
                for (int one = 0; one < agents; one++) {
                    for (int other = one + 1; other < agents; other++) {
                        LeftRightMap x = withCursor(sizes[0], sizes[1], cursor);
                        start(x, one);
                        start(x, other);
                        boolean oneIsFirst = one >= cursor || other < cursor;
                        DUE.due("run(1)", x.run(1), 1);
                        DUE.due("phase of agent " + one, phase(x, one), oneIsFirst ? 2 : 1);
                        DUE.due("phase of agent " + other, phase(x, other), oneIsFirst ? 1 : 2);
                    }
                }
            }
        }
    }

    private static void cursorGoesRound() {
        LeftRightMap x = new LeftRightMap(4, 2, 2);
        x.startLookup(0, 1);
        x.startLookup(1, 1);
        x.startPut(0, 1, 10);
        x.startRemove(1, 1);
        DUE.watch(x);
        ran(x, 1, 1, "r0 version", 0, "r0 phase", LeftRightMap.R_ARRIVE, "cursor", 1, "steps", 1);
        ran(x, 1, 1, "r1 version", 0, "r1 phase", LeftRightMap.R_ARRIVE, "cursor", 2, "steps", 2);
        ran(x, 1, 1, "lock", 0, "w0 phase", LeftRightMap.W_APPLY_IDLE, "cursor", 3, "steps", 3);
        ran(x, 1, 1, "cursor", 0, "steps", 4);
        ran(x, 6, 6, "indicator0", 2, "r0 phase", LeftRightMap.R_LOOKUP, "r0 side", 0,
            "r1 phase", LeftRightMap.R_LOOKUP, "r1 side", 0, "w0 phase", LeftRightMap.W_FLIP,
            "w0 side", 1, "w0 result", LeftRightMap.ABSENT, "i1 1", 10, "cursor", 2, "steps", 10);
    }

    /** The agents that run has to take are found here by the words of the document, and stepped one by one. */
    private static void doesWhatStepDoes() {
        for (int n = 1; n <= 64; n++) {
            LeftRightMap x = muchToDo();
            LeftRightMap y = muchToDo();
            x.run(n);
            int cursor = 0;
            for (int done = 0; done < n; done++) {
                int ahead = 0;
                while (ahead < 12 && y.step((cursor + ahead) % 12) == LeftRightMap.STEP_NONE) {
                    ahead++;
                }
                cursor = (cursor + ahead + 1) % 12;
            }
            DUE.due("global(G_CURSOR) after run(" + n + ")", x.global(LeftRightMap.G_CURSOR), cursor);
            Map<String, Integer> due = State.of(y, 20);
            due.put("cursor", cursor);
            DUE.sameState("run(" + n + ")", State.of(x, 20), due);
        }
    }

    /** Writer 0 waits in W_DRAIN_PREV for reader 0 and writer 1 for the lock; the cursor stands at writer 0. */
    private static LeftRightMap twoWait() {
        LeftRightMap x = new LeftRightMap(4, 1, 2);
        x.startLookup(0, 1);
        x.step(0);
        x.step(0);
        x.startPut(0, 1, 1);
        Drive.writerTo(x, 0, LeftRightMap.W_DRAIN_PREV);
        x.startPut(1, 2, 2);
        x.run(1);
        DUE.due("global(G_CURSOR)", x.global(LeftRightMap.G_CURSOR), 1);
        return x;
    }

    private static void waitsGrowSteps() {
        LeftRightMap x = twoWait();
        int steps = x.global(LeftRightMap.G_STEPS);
        DUE.watch(x);
        ran(x, 1, 1, "cursor", 2, "steps", steps + 1);
        ran(x, 1, 1, "cursor", 0, "steps", steps + 2);
        ran(x, 1, 1, "r0 result", 1, "r0 phase", LeftRightMap.R_DEPART, "cursor", 1, "steps", steps + 3);
        ran(x, 2, 2, "cursor", 0, "steps", steps + 5);
    }

    /** 2 + 2 + 7 steps move, and between them writer 0 waits once more and writer 1 twice. */
    private static void waitsAreDone() {
        LeftRightMap x = twoWait();
        DUE.due("run(2), both wait", x.run(2), 2);
        DUE.due("run(64)", x.run(64), 2 + 2 + 7 + 1 + 2);
        DUE.due("run(64) of nobody", x.run(64), 0);
    }

    private static void cursorStaysOtherwise() {
        LeftRightMap x = twoWait();
        x.step(0);
        x.step(1);
        x.step(2);
        x.step(-1);
        x.step(3);
        x.startLookup(0, 5);
        x.startPut(0, -1, 5);
        x.startRemove(1, 5);
        x.run(0);
        x.run(-5);
        DUE.due("global(G_CURSOR)", x.global(LeftRightMap.G_CURSOR), 1);
    }

    private static void agentsFinishOnTheWay() {
        LeftRightMap x = new LeftRightMap(4, 2, 1);
        x.startLookup(0, 9);
        x.startLookup(1, 9);
        Drive.readerTo(x, 0, LeftRightMap.R_DEPART);
        DUE.watch(x);
        ran(x, 4, 4, "indicator0", 1, "r0 phase", LeftRightMap.R_DONE, "r1 version", 0, "r1 side", 0,
            "r1 phase", LeftRightMap.R_LOOKUP, "cursor", 2, "steps", 8);
    }
}
