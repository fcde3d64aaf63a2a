import java.util.Map;

/** Promise 5: step, whom it steps, whom not, and what every step does. */
public final class StepTest {
    private static final int MIN = Integer.MIN_VALUE;
    private static final int MAX = Integer.MAX_VALUE;
    private static final Due DUE = new Due();

    public static void main(String[] args) {
        DUE.test("If agent < 0 it answers STEP_NONE and changes nothing", StepTest::agentTooSmall);
        DUE.test("or agent >= readers + writers", StepTest::agentTooLarge);
        DUE.test("or the agent is not active: R_IDLE and W_IDLE", StepTest::idleAgents);
        DUE.test("or the agent is not active: R_DONE", StepTest::doneReader);
        DUE.test("or the agent is not active: W_DONE", StepTest::doneWriter);
        DUE.test("or the agent is not active: W_DONE with FULL", StepTest::fullWriter);
        DUE.test("writer w has agent number readers + w", StepTest::agentNumbers);
        DUE.test("answers STEP_MOVED or STEP_WAITED and adds 1 to steps", StepTest::stepsAreCounted);
        DUE.test("It never changes cursor", StepTest::cursorStays);
        DUE.test("it changes no field of any other agent", StepTest::othersStay);
        DUE.end();
    }

    private static LeftRightMap allStarted(int readers, int writers) {
        LeftRightMap x = new LeftRightMap(4, readers, writers);
        for (int r = 0; r < readers; r++) {
            x.startLookup(r, r);
        }
        for (int w = 0; w < writers; w++) {
            x.startPut(w, w, w);
        }
        return x;
    }

    private static void agentTooSmall() {
        for (int[] sizes : new int[][] {{1, 1}, {3, 2}, {8, 4}}) {
            Stepping s = new Stepping(DUE, allStarted(sizes[0], sizes[1]));
            for (int agent : new int[] {-1, -2, -12, MIN + 1, MIN}) {
                s.noStep(agent);
            }
            s.step("R_READ_VERSION", 0, Stepping.MOVED, "r0 version", 0, "r0 phase", LeftRightMap.R_ARRIVE);
        }
    }

    private static void agentTooLarge() {
        for (int[] sizes : new int[][] {{1, 1}, {3, 2}, {8, 4}, {1, 4}, {8, 1}}) {
            int agents = sizes[0] + sizes[1];
            int last = sizes[1] - 1;
            Stepping s = new Stepping(DUE, allStarted(sizes[0], sizes[1]));
            for (int agent : new int[] {agents, agents + 1, 12, 13, 16, MAX - 1, MAX}) {
                s.noStep(agent);
            }
            s.step("W_LOCK", agents - 1, Stepping.MOVED, "lock", last,
                "w" + last + " phase", LeftRightMap.W_APPLY_IDLE);
        }
    }

    private static void idleAgents() {
        Stepping s = new Stepping(DUE, new LeftRightMap(16, 8, 4));
        for (int agent = 0; agent < 12; agent++) {
            s.noStep(agent);
        }
        s.lookup(3, 1);
        s.put(2, 1, 1);
        for (int agent : new int[] {0, 1, 2, 4, 5, 6, 7, 8, 9, 11}) {
            s.noStep(agent);
        }
    }

    private static void doneReader() {
        LeftRightMap x = new LeftRightMap(4, 2, 1);
        x.startLookup(0, 5);
        Drive.lookup(x, 1, 5);
        Stepping s = new Stepping(DUE, x);
        s.noStep(1);
        s.noStep(1);
        s.step("R_READ_VERSION", 0, Stepping.MOVED, "r0 version", 0, "r0 phase", LeftRightMap.R_ARRIVE);
    }

    private static void doneWriter() {
        LeftRightMap x = new LeftRightMap(4, 1, 2);
        Drive.put(x, 0, 5, 50);
        Drive.remove(x, 1, 5);
        Stepping s = new Stepping(DUE, x);
        s.noStep(1);
        s.noStep(2);
    }

    private static void fullWriter() {
        LeftRightMap x = new LeftRightMap(4, 1, 1);
        Drive.fill(x, 4);
        Drive.put(x, 0, 9, 9);
        DUE.due("writer(0, FIELD_RESULT)", x.writer(0, LeftRightMap.FIELD_RESULT), LeftRightMap.FULL);
        Stepping s = new Stepping(DUE, x);
        s.noStep(1);
        s.noStep(1);
    }

    private static void agentNumbers() {
        for (int readers = 1; readers <= 8; readers++) {
            for (int w = 0; w < 4; w++) {
                Stepping s = new Stepping(DUE, allStarted(readers, 4));
                s.step("W_LOCK", readers + w, Stepping.MOVED, "lock", w,
                    "w" + w + " phase", LeftRightMap.W_APPLY_IDLE);
            }
            for (int r = 0; r < readers; r++) {
                Stepping s = new Stepping(DUE, allStarted(readers, 4));
                s.step("R_READ_VERSION", r, Stepping.MOVED, "r" + r + " version", 0,
                    "r" + r + " phase", LeftRightMap.R_ARRIVE);
            }
        }
    }

    private static void stepsAreCounted() {
        LeftRightMap x = allStarted(2, 2);
        int due = 0;
        for (int i = 0; i < 200; i++) {
            int answer = x.step(i % 6 - 1);
            due += answer == LeftRightMap.STEP_MOVED || answer == LeftRightMap.STEP_WAITED ? 1 : 0;
            DUE.due("global(G_STEPS) after " + i + " calls", x.global(LeftRightMap.G_STEPS), due);
        }
        DUE.due("two lookups and two puts move", due >= 2 * 5 + 2 * 7, true);
    }

    private static void cursorStays() {
        for (int cursor = 0; cursor < 4; cursor++) {
            LeftRightMap x = allStarted(2, 2);
            x.run(4 + cursor);
            DUE.due("global(G_CURSOR)", x.global(LeftRightMap.G_CURSOR), cursor);
            for (int i = 0; i < 200; i++) {
                x.step(i % 6 - 1);
                DUE.due("global(G_CURSOR) after a step", x.global(LeftRightMap.G_CURSOR), cursor);
            }
        }
    }

    /** In a state where nobody's fields are as at the start, every agent does every step that it can. */
    private static void othersStay() {
        LeftRightMap x = Drive.busy();
        x.startLookup(3, 5);
        x.startRemove(2, 5);
        x.startRemove(0, 6);
        for (int i = 0; i < 200; i++) {
            int agent = i % 7;
            String own = agent < 4 ? "r" + agent + " " : "w" + (agent - 4) + " ";
            Map<String, Integer> before = State.of(x, 10);
            x.step(agent);
            Map<String, Integer> after = State.of(x, 10);
            dropAllBut(before, own);
            dropAllBut(after, own);
            DUE.sameState("step(" + agent + ") for the other agents", after, before);
        }
    }

    /** Leaves the fields of the agents other than the one whose names begin so. */
    private static void dropAllBut(Map<String, Integer> state, String own) {
        state.keySet().removeIf(name -> !name.matches("[rw][0-9] .*") || name.startsWith(own));
    }
}
