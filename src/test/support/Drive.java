/** Brings an object to where a test begins. What it does on the way is not checked here. */
final class Drive {
    private static final int FAR = 1000;

    static void steps(LeftRightMap x, int agent, int times) {
        for (int i = 0; i < times; i++) {
            x.step(agent);
        }
    }

    static int agentOfWriter(LeftRightMap x, int w) {
        return x.global(LeftRightMap.G_READERS) + w;
    }

    /** Steps reader r until it is in the phase. */
    static void readerTo(LeftRightMap x, int r, int phase) {
        for (int i = 0; i < FAR && x.reader(r, LeftRightMap.FIELD_PHASE) != phase; i++) {
            x.step(r);
        }
    }

    /** Steps writer w until it is in the phase. */
    static void writerTo(LeftRightMap x, int w, int phase) {
        for (int i = 0; i < FAR && x.writer(w, LeftRightMap.FIELD_PHASE) != phase; i++) {
            x.step(agentOfWriter(x, w));
        }
    }

    static void lookup(LeftRightMap x, int r, int key) {
        x.startLookup(r, key);
        readerTo(x, r, LeftRightMap.R_DONE);
    }

    static void put(LeftRightMap x, int w, int key, int value) {
        x.startPut(w, key, value);
        writerTo(x, w, LeftRightMap.W_DONE);
    }

    static void remove(LeftRightMap x, int w, int key) {
        x.startRemove(w, key);
        writerTo(x, w, LeftRightMap.W_DONE);
    }

    /** Puts the keys 0 to count - 1, key k with the value 100 + k, all by writer 0. */
    static void fill(LeftRightMap x, int count) {
        for (int key = 0; key < count; key++) {
            put(x, 0, key, 100 + key);
        }
    }

    /**
     * Four readers, three writers and capacity 4, with nothing left as it started: keys in both instances,
     * the instances apart, both bits 1, the lock held, two readers inside, a cursor and steps that are not 0.
     * Reader 0 is done, 1 inside, 2 inside, 3 idle; writer 0 is done, 1 holds the lock, 2 is idle.
     */
    static LeftRightMap busy() {
        LeftRightMap x = new LeftRightMap(4, 4, 3);
        put(x, 0, 5, 50);
        x.startLookup(0, 5);
        x.run(64);
        x.startLookup(1, 5);
        steps(x, 1, 4);
        x.startPut(1, 6, 60);
        writerTo(x, 1, LeftRightMap.W_FLIP);
        x.startLookup(2, 6);
        steps(x, 2, 3);
        return x;
    }
}
