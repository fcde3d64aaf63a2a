/** An object under single steps: each step is held against its answer and all that it changes. */
final class Stepping {
    static final int MOVED = LeftRightMap.STEP_MOVED;
    static final int WAITED = LeftRightMap.STEP_WAITED;

    final LeftRightMap x;
    private final Due due;
    private int steps;

    Stepping(Due due, LeftRightMap x) {
        this.due = due;
        this.x = x;
        watch();
    }

    /** After calls that were not made through this object. */
    void watch() {
        steps = x.global(LeftRightMap.G_STEPS);
        due.watch(x);
    }

    void lookup(int r, int key) {
        due.due("startLookup(" + r + ", " + key + ")", x.startLookup(r, key), true);
        watch();
    }

    void put(int w, int key, int value) {
        due.due("startPut(" + w + ", " + key + ", " + value + ")", x.startPut(w, key, value), true);
        watch();
    }

    void remove(int w, int key) {
        due.due("startRemove(" + w + ", " + key + ")", x.startRemove(w, key), true);
        watch();
    }

    /** One step of an active agent, which adds 1 to steps, changes what is named and nothing else. */
    void step(String phase, int agent, int answer, Object... namesAndValues) {
        String call = "step(" + agent + ") in " + phase;
        due.due(call, x.step(agent), answer);
        steps++;
        Object[] all = new Object[namesAndValues.length + 2];
        System.arraycopy(namesAndValues, 0, all, 0, namesAndValues.length);
        all[all.length - 2] = "steps";
        all[all.length - 1] = steps;
        due.changes(call, all);
    }

    void noStep(int agent) {
        due.due("step(" + agent + ")", x.step(agent), LeftRightMap.STEP_NONE);
        due.changes("step(" + agent + ")");
    }
}
