/** What README.md says under Use: its examples, call by call, and its counts of steps. */
public final class ReadmeTest {
    private static final int FIELD_RESULT = LeftRightMap.FIELD_RESULT;
    private static final int MOVED = LeftRightMap.STEP_MOVED;
    private static final Due DUE = new Due();

    public static void main(String[] args) {
        DUE.test("README, Use: the first example", ReadmeTest::firstExample);
        DUE.test("README, Choose the order of steps", ReadmeTest::orderOfSteps);
        DUE.test("README: a lookup takes 5 steps", ReadmeTest::stepsOfALookup);
        DUE.test("README: a put or remove takes 7, a put that finds no room 2", ReadmeTest::stepsOfAWriter);
        DUE.test("README: a writer that waits, stepped alone, may never end", ReadmeTest::aloneForLong);
        DUE.test("README: to run until all are done", ReadmeTest::untilAllAreDone);
        DUE.end();
    }

    private static LeftRightMap firstExample() {
        LeftRightMap map = new LeftRightMap(8, 2, 1);
        DUE.due("startPut(0, 5, 50)", map.startPut(0, 5, 50), true);
        DUE.due("run(64)", map.run(64), 7);
        DUE.due("writer(0, FIELD_RESULT)", map.writer(0, FIELD_RESULT), LeftRightMap.ABSENT);
        DUE.due("startLookup(1, 5)", map.startLookup(1, 5), true);
        DUE.due("steps of agent 1", stepsUntilNone(map, 1), 5);
        DUE.due("reader(1, FIELD_RESULT)", map.reader(1, FIELD_RESULT), 50);
        return map;
    }

    private static void orderOfSteps() {
        LeftRightMap map = firstExample();
        DUE.due("startLookup(0, 5)", map.startLookup(0, 5), true);
        moves(map, 0, 3);
        DUE.due("startPut(0, 5, 51)", map.startPut(0, 5, 51), true);
        moves(map, 2, 5);
        DUE.due("peek(5)", map.peek(5), 51);
        DUE.due("step(2)", map.step(2), LeftRightMap.STEP_WAITED);
        moves(map, 0, 2);
        DUE.due("reader(0, FIELD_RESULT)", map.reader(0, FIELD_RESULT), 50);
        DUE.due("run(64)", map.run(64), 2);
        DUE.due("writer(0, FIELD_PHASE)", map.writer(0, LeftRightMap.FIELD_PHASE), LeftRightMap.W_DONE);
        DUE.due("writer(0, FIELD_RESULT)", map.writer(0, FIELD_RESULT), 50);
    }

    private static void stepsOfALookup() {
        LeftRightMap map = new LeftRightMap(4, 1, 1);
        map.startLookup(0, 3);
        DUE.due("steps of a lookup, absent", stepsUntilNone(map, 0), 5);
        Drive.put(map, 0, 3, 30);
        map.startLookup(0, 3);
        DUE.due("steps of a lookup, present", stepsUntilNone(map, 0), 5);
    }

    private static void stepsOfAWriter() {
        LeftRightMap map = new LeftRightMap(4, 1, 1);
        for (int key = 0; key < 4; key++) {
            map.startPut(0, key, key);
            DUE.due("steps of a put of a new key", stepsUntilNone(map, 1), 7);
        }
        map.startPut(0, 3, 30);
        DUE.due("steps of a put of a key that is there", stepsUntilNone(map, 1), 7);
        map.startPut(0, 4, 40);
        DUE.due("steps of a put that finds no room", stepsUntilNone(map, 1), 2);
        map.startRemove(0, 4);
        DUE.due("steps of a remove, absent", stepsUntilNone(map, 1), 7);
        map.startRemove(0, 3);
        DUE.due("steps of a remove, present", stepsUntilNone(map, 1), 7);
    }

    private static void aloneForLong() {
        LeftRightMap map = new LeftRightMap(4, 1, 1);
        map.startLookup(0, 3);
        moves(map, 0, 2);
        map.startPut(0, 3, 30);
        moves(map, 1, 5);
        for (int i = 0; i < 1000; i++) {
            DUE.due("step(1)", map.step(1), LeftRightMap.STEP_WAITED);
        }
        moves(map, 0, 3);
        moves(map, 1, 2);
    }

    private static void untilAllAreDone() {
        LeftRightMap map = new LeftRightMap(16, 8, 4);
        for (int r = 0; r < 8; r++) {
            map.startLookup(r, r);
        }
        for (int w = 0; w < 4; w++) {
            map.startPut(w, w, 10 * w);
        }
        int calls = 0;
        while (calls < 100 && map.run(64) > 0) {
            calls++;
        }
        DUE.due("more than one call of run was needed, and not a hundred", calls > 1 && calls < 100, true);
        for (int r = 0; r < 8; r++) {
            DUE.due("phase of reader " + r, map.reader(r, LeftRightMap.FIELD_PHASE), LeftRightMap.R_DONE);
        }
        for (int w = 0; w < 4; w++) {
            DUE.due("phase of writer " + w, map.writer(w, LeftRightMap.FIELD_PHASE), LeftRightMap.W_DONE);
        }
    }

    private static void moves(LeftRightMap map, int agent, int times) {
        for (int i = 0; i < times; i++) {
            DUE.due("step(" + agent + ")", map.step(agent), MOVED);
        }
    }

    private static int stepsUntilNone(LeftRightMap map, int agent) {
        int steps = 0;
        while (steps < 100 && map.step(agent) != LeftRightMap.STEP_NONE) {
            steps++;
        }
        return steps;
    }
}
