/**
 * Promises 2 to 11 and the guarantees of promise 5: long mixed runs of calls, the same at each time, with
 * every answer and the whole state held against the model.
 */
public final class MixedRunsTest {
    private static final int RUNS = 400;
    private static final int CALLS = 400;
    private static final int LAST_KEY = 19;
    private static final Due DUE = new Due();

    private static long seed;
    private static int waits;
    private static int inside;

    public static void main(String[] args) {
        DUE.test("promises 2 to 11 together", MixedRunsTest::mixedRuns);
        DUE.end();
    }

    private static void mixedRuns() {
        for (int run = 0; run < RUNS && DUE.wrong() == 0; run++) {
            seed = run;
            mixedRun("run " + run);
        }
        DUE.due("there were waits", waits > 1000, true);
        DUE.due("there were readers inside", inside > 1000, true);
    }

    private static int below(int bound) {
        seed = seed * 6364136223846793005L + 1442695040888963407L;
        return (int) ((seed >>> 33) % bound);
    }

    private static void mixedRun(String run) {
        for (int i = 0; i < 8; i++) {
            below(2);
        }
        int capacity = 4 + below(13);
        int readers = 1 + below(8);
        int writers = 1 + below(4);
        // Few keys make old ones meet; many keys, more than the capacity, make it full.
        int keys = 2 + below(LAST_KEY);
        LeftRightMap x = new LeftRightMap(capacity, readers, writers);
        Model model = new Model(DUE, capacity, readers, writers);
        for (int i = 0; i < CALLS && DUE.wrong() == 0; i++) {
            String call = run + ", call " + i + ": " + oneCall(x, model, readers, writers, keys);
            DUE.sameState(call, State.of(x, LAST_KEY + 1), model.state());
            inside += model.readersInside();
        }
    }

    private static String oneCall(LeftRightMap x, Model model, int readers, int writers, int keys) {
        int r = below(readers + 2) - 1;
        int w = below(writers + 2) - 1;
        int key = below(40) == 0 ? 10000 + below(2) : below(keys + 1) - (below(40) == 0 ? 1 : 0);
        int value = below(40) == 0 ? 1000000 : below(1000000) - (below(40) == 0 ? 1000000 : 0);
        switch (below(12)) {
            case 0:
            case 1:
                String lookup = "startLookup(" + r + ", " + key + ")";
                DUE.due(lookup, x.startLookup(r, key), model.startLookup(r, key));
                return lookup;
            case 2:
            case 3:
                String put = "startPut(" + w + ", " + key + ", " + value + ")";
                DUE.due(put, x.startPut(w, key, value), model.startWrite(1, w, key, value));
                return put;
            case 4:
                String remove = "startRemove(" + w + ", " + key + ")";
                DUE.due(remove, x.startRemove(w, key), model.startWrite(2, w, key, value));
                return remove;
            case 5:
                int n = below(9) == 0 ? below(80) - 5 : below(10);
                String rounds = "run(" + n + ")";
                DUE.due(rounds, x.run(n), model.run(n));
                return rounds;
            default:
                int agent = below(readers + writers + 2) - 1;
                String step = "step(" + agent + ")";
                int answer = x.step(agent);
                waits += answer == LeftRightMap.STEP_WAITED ? 1 : 0;
                DUE.due(step, answer, model.step(agent));
                return step;
        }
    }
}
