/** Promises 7 to 11: peek, instance, reader, writer and global answer and change nothing. */
public final class ObserversTest {
    private static final int[] WRONG_KEYS = {-1, -2, 10000, 10001, Integer.MIN_VALUE, Integer.MAX_VALUE};
    private static final Due DUE = new Due();

    public static void main(String[] args) {
        peeks();
        instances();
        readers();
        writers();
        globals();
        changesNothing();
        DUE.end();
    }

    /** A put of 7 that has flipped and not yet reached the old instance; keys 0 and 9999 stand in both. */
    private static LeftRightMap halfWay() {
        LeftRightMap x = new LeftRightMap(6, 3, 2);
        x.startPut(0, 0, 999999);
        x.run(64);
        x.startPut(0, 9999, 0);
        x.run(64);
        x.startLookup(2, 9999);
        x.step(2);
        x.step(2);
        x.step(2);
        x.step(2);
        x.startPut(1, 7, 70);
        x.step(4);
        x.step(4);
        x.step(4);
        x.step(4);
        return x;
    }

    private static void peeks() {
        LeftRightMap x = halfWay();
        DUE.due("peek(0)", x.peek(0), 999999);
        DUE.due("peek(9999)", x.peek(9999), 0);
        DUE.due("peek(7)", x.peek(7), 70);
        DUE.due("peek(8)", x.peek(8), LeftRightMap.ABSENT);
        for (int key : WRONG_KEYS) {
            DUE.due("peek(" + key + ")", x.peek(key), LeftRightMap.BAD);
        }
        LeftRightMap y = new LeftRightMap(4, 1, 1);
        y.startPut(0, 7, 70);
        y.step(1);
        y.step(1);
        DUE.due("peek(7) before the flip", y.peek(7), LeftRightMap.ABSENT);
        y.step(1);
        DUE.due("peek(7) after the flip", y.peek(7), 70);
    }

    private static void instances() {
        LeftRightMap x = halfWay();
        for (int side = 0; side < 2; side++) {
            DUE.due("instance(" + side + ", 0)", x.instance(side, 0), 999999);
            DUE.due("instance(" + side + ", 9999)", x.instance(side, 9999), 0);
            DUE.due("instance(" + side + ", 8)", x.instance(side, 8), LeftRightMap.ABSENT);
            for (int key : WRONG_KEYS) {
                DUE.due("instance(" + side + ", " + key + ")", x.instance(side, key), LeftRightMap.BAD);
            }
        }
        DUE.due("instance(0, 7)", x.instance(0, 7), LeftRightMap.ABSENT);
        DUE.due("instance(1, 7)", x.instance(1, 7), 70);
        int[] wrongSides = {-1, 2, 3, Integer.MIN_VALUE, Integer.MAX_VALUE};
        for (int side : wrongSides) {
            DUE.due("instance(" + side + ", 0)", x.instance(side, 0), LeftRightMap.BAD);
            DUE.due("instance(" + side + ", -1)", x.instance(side, -1), LeftRightMap.BAD);
        }
    }

    private static void readers() {
        LeftRightMap x = halfWay();
        DUE.due("phase", x.reader(2, LeftRightMap.FIELD_PHASE), LeftRightMap.R_DEPART);
        DUE.due("key", x.reader(2, LeftRightMap.FIELD_KEY), 9999);
        DUE.due("result", x.reader(2, LeftRightMap.FIELD_RESULT), 0);
        DUE.due("version", x.reader(2, LeftRightMap.FIELD_VERSION), 0);
        DUE.due("side", x.reader(2, LeftRightMap.FIELD_SIDE), 0);
        int[] wrongFields = {
            LeftRightMap.FIELD_VALUE, LeftRightMap.FIELD_KIND, 7, -1, Integer.MIN_VALUE, Integer.MAX_VALUE
        };
        for (int field : wrongFields) {
            DUE.due("reader(2, " + field + ")", x.reader(2, field), LeftRightMap.BAD);
        }
        int[] wrongReaders = {-1, 3, 4, 7, 8, Integer.MIN_VALUE, Integer.MAX_VALUE};
        for (int r : wrongReaders) {
            for (int field = -1; field <= 7; field++) {
                DUE.due("reader(" + r + ", " + field + ")", x.reader(r, field), LeftRightMap.BAD);
            }
        }
    }

    private static void writers() {
        LeftRightMap x = halfWay();
        DUE.due("phase", x.writer(1, LeftRightMap.FIELD_PHASE), LeftRightMap.W_TOGGLE);
        DUE.due("key", x.writer(1, LeftRightMap.FIELD_KEY), 7);
        DUE.due("result", x.writer(1, LeftRightMap.FIELD_RESULT), LeftRightMap.ABSENT);
        DUE.due("version", x.writer(1, LeftRightMap.FIELD_VERSION), 0);
        DUE.due("side", x.writer(1, LeftRightMap.FIELD_SIDE), 1);
        DUE.due("value", x.writer(1, LeftRightMap.FIELD_VALUE), 70);
        DUE.due("kind", x.writer(1, LeftRightMap.FIELD_KIND), LeftRightMap.KIND_PUT);
        int[] wrongFields = {7, 8, -1, Integer.MIN_VALUE, Integer.MAX_VALUE};
        for (int field : wrongFields) {
            DUE.due("writer(1, " + field + ")", x.writer(1, field), LeftRightMap.BAD);
        }
        int[] wrongWriters = {-1, 2, 3, 4, Integer.MIN_VALUE, Integer.MAX_VALUE};
        for (int w : wrongWriters) {
            for (int field = -1; field <= 7; field++) {
                DUE.due("writer(" + w + ", " + field + ")", x.writer(w, field), LeftRightMap.BAD);
            }
        }
    }

    private static void globals() {
        LeftRightMap x = halfWay();
        DUE.due("leftRight", x.global(LeftRightMap.G_LEFT_RIGHT), 1);
        DUE.due("versionIndex", x.global(LeftRightMap.G_VERSION), 0);
        DUE.due("indicator[0]", x.global(LeftRightMap.G_INDICATOR0), 1);
        DUE.due("indicator[1]", x.global(LeftRightMap.G_INDICATOR1), 0);
        DUE.due("lock", x.global(LeftRightMap.G_LOCK), 1);
        DUE.due("size", x.global(LeftRightMap.G_SIZE), 3);
        DUE.due("cursor", x.global(LeftRightMap.G_CURSOR), 4);
        DUE.due("steps", x.global(LeftRightMap.G_STEPS), 22);
        DUE.due("capacity", x.global(LeftRightMap.G_CAPACITY), 6);
        DUE.due("readers", x.global(LeftRightMap.G_READERS), 3);
        DUE.due("writers", x.global(LeftRightMap.G_WRITERS), 2);
        int[] wrongFields = {-1, 11, 12, Integer.MIN_VALUE, Integer.MAX_VALUE};
        for (int field : wrongFields) {
            DUE.due("global(" + field + ")", x.global(field), LeftRightMap.BAD);
        }
    }

    private static void changesNothing() {
        LeftRightMap x = halfWay();
        DUE.watch(x);
        for (int a = -2; a < 14; a++) {
            x.peek(a);
            x.global(a);
            for (int b = -2; b < 14; b++) {
                x.instance(a, b);
                x.reader(a, b);
                x.writer(a, b);
            }
        }
        DUE.changes("reading everything");
    }
}
