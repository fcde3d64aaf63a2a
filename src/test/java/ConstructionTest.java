/** Promise 1: the constructor clamps its arguments, and all state starts as the document says. */
public final class ConstructionTest {
    private static final Due DUE = new Due();

    public static void main(String[] args) {
        int[] numbers = {
            Integer.MIN_VALUE, -1000, -1, 0, 1, 2, 3, 4, 5, 7, 8, 9, 15, 16, 17, 100, Integer.MAX_VALUE
        };
        for (int number : numbers) {
            clamped(number, 2, 2);
            clamped(5, number, 2);
            clamped(5, 2, number);
            clamped(number, number, number);
        }
        clamped(8, 5, 3);
        limitsNeverChange();
        DUE.end();
    }

    private static void clamped(int capacity, int readers, int writers) {
        LeftRightMap x = new LeftRightMap(capacity, readers, writers);
        String call = "new LeftRightMap(" + capacity + ", " + readers + ", " + writers + ")";
        int readersDue = Math.max(1, Math.min(8, readers));
        int writersDue = Math.max(1, Math.min(4, writers));
        DUE.due(call + " capacity", x.global(LeftRightMap.G_CAPACITY), Math.max(4, Math.min(16, capacity)));
        DUE.due(call + " readers", x.global(LeftRightMap.G_READERS), readersDue);
        DUE.due(call + " writers", x.global(LeftRightMap.G_WRITERS), writersDue);
        sharedStart(call, x);
        for (int r = 0; r < readersDue; r++) {
            readerStart(call + " reader " + r, x, r);
        }
        for (int w = 0; w < writersDue; w++) {
            writerStart(call + " writer " + w, x, w);
        }
        for (int agent = 0; agent < readersDue + writersDue; agent++) {
            DUE.due(call + " step(" + agent + ")", x.step(agent), LeftRightMap.STEP_NONE);
        }
        DUE.due(call + " run(64)", x.run(64), 0);
    }

    private static void sharedStart(String call, LeftRightMap x) {
        DUE.due(call + " leftRight", x.global(LeftRightMap.G_LEFT_RIGHT), 0);
        DUE.due(call + " versionIndex", x.global(LeftRightMap.G_VERSION), 0);
        DUE.due(call + " indicator[0]", x.global(LeftRightMap.G_INDICATOR0), 0);
        DUE.due(call + " indicator[1]", x.global(LeftRightMap.G_INDICATOR1), 0);
        DUE.due(call + " lock", x.global(LeftRightMap.G_LOCK), LeftRightMap.NONE);
        DUE.due(call + " size", x.global(LeftRightMap.G_SIZE), 0);
        DUE.due(call + " cursor", x.global(LeftRightMap.G_CURSOR), 0);
        DUE.due(call + " steps", x.global(LeftRightMap.G_STEPS), 0);
        for (int key = 0; key <= LeftRightMap.MAX_KEY; key++) {
            DUE.due(call + " instance(0, " + key + ")", x.instance(0, key), LeftRightMap.ABSENT);
            DUE.due(call + " instance(1, " + key + ")", x.instance(1, key), LeftRightMap.ABSENT);
        }
    }

    private static void readerStart(String who, LeftRightMap x, int r) {
        DUE.due(who + " phase", x.reader(r, LeftRightMap.FIELD_PHASE), LeftRightMap.R_IDLE);
        DUE.due(who + " key", x.reader(r, LeftRightMap.FIELD_KEY), LeftRightMap.NONE);
        DUE.due(who + " result", x.reader(r, LeftRightMap.FIELD_RESULT), LeftRightMap.PENDING);
        DUE.due(who + " version", x.reader(r, LeftRightMap.FIELD_VERSION), LeftRightMap.NONE);
        DUE.due(who + " side", x.reader(r, LeftRightMap.FIELD_SIDE), LeftRightMap.NONE);
    }

    private static void writerStart(String who, LeftRightMap x, int w) {
        DUE.due(who + " phase", x.writer(w, LeftRightMap.FIELD_PHASE), LeftRightMap.W_IDLE);
        DUE.due(who + " kind", x.writer(w, LeftRightMap.FIELD_KIND), LeftRightMap.KIND_NONE);
        DUE.due(who + " key", x.writer(w, LeftRightMap.FIELD_KEY), LeftRightMap.NONE);
        DUE.due(who + " value", x.writer(w, LeftRightMap.FIELD_VALUE), LeftRightMap.NONE);
        DUE.due(who + " result", x.writer(w, LeftRightMap.FIELD_RESULT), LeftRightMap.PENDING);
        DUE.due(who + " version", x.writer(w, LeftRightMap.FIELD_VERSION), LeftRightMap.NONE);
        DUE.due(who + " side", x.writer(w, LeftRightMap.FIELD_SIDE), LeftRightMap.NONE);
    }

    private static void limitsNeverChange() {
        LeftRightMap x = new LeftRightMap(5, 3, 2);
        for (int key = 0; key < 8; key++) {
            x.startPut(key % 2, key, key);
            x.startLookup(key % 3, key);
            x.run(64);
        }
        DUE.due("capacity after a run", x.global(LeftRightMap.G_CAPACITY), 5);
        DUE.due("readers after a run", x.global(LeftRightMap.G_READERS), 3);
        DUE.due("writers after a run", x.global(LeftRightMap.G_WRITERS), 2);
        DUE.due("size after a run", x.global(LeftRightMap.G_SIZE), 5);
    }
}
