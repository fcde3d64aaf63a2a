/** Promises 7 to 11: peek, instance, reader, writer and global answer and change nothing. */
public final class ObserversTest {
    private static final int MIN = Integer.MIN_VALUE;
    private static final int MAX = Integer.MAX_VALUE;
    private static final int BAD = LeftRightMap.BAD;
    private static final int[] KEYS_TOO_SMALL = {-1, -2, -3, -4, MIN + 1, MIN};
    private static final int[] KEYS_TOO_LARGE = {10000, 10001, 999999, MAX - 1, MAX};
    private static final Due DUE = new Due();

    public static void main(String[] args) {
        DUE.test("peek answers the value of key in instance leftRight", ObserversTest::peekOfPresentKey);
        DUE.test("peek: or ABSENT if key is not there", ObserversTest::peekOfAbsentKey);
        DUE.test("peek answers BAD if key < 0", ObserversTest::peekKeyTooSmall);
        DUE.test("peek answers BAD if key > MAX_KEY", ObserversTest::peekKeyTooLarge);
        DUE.test("peek changes nothing", ObserversTest::peekChangesNothing);

        DUE.test("instance answers the value of key in instance side", ObserversTest::instanceOfPresentKey);
        DUE.test("instance: or ABSENT if key is not there", ObserversTest::instanceOfAbsentKey);
        DUE.test("instance answers BAD if side is not 0 or 1", ObserversTest::instanceWrongSide);
        DUE.test("instance answers BAD if key < 0", ObserversTest::instanceKeyTooSmall);
        DUE.test("instance answers BAD if key > MAX_KEY", ObserversTest::instanceKeyTooLarge);
        DUE.test("instance changes nothing", ObserversTest::instanceChangesNothing);

        DUE.test("reader answers a field of reader r", ObserversTest::readerFields);
        DUE.test("reader answers BAD if r < 0", ObserversTest::readerTooSmall);
        DUE.test("reader answers BAD if r >= readers", ObserversTest::readerTooLarge);
        DUE.test("reader answers BAD if field is any other number (FIELD_VALUE and FIELD_KIND included)",
            ObserversTest::readerWrongField);
        DUE.test("reader changes nothing", ObserversTest::readerChangesNothing);

        DUE.test("writer answers a field of writer w", ObserversTest::writerFields);
        DUE.test("writer answers BAD if w < 0", ObserversTest::writerTooSmall);
        DUE.test("writer answers BAD if w >= writers", ObserversTest::writerTooLarge);
        DUE.test("writer answers BAD if field is any other number", ObserversTest::writerWrongField);
        DUE.test("writer changes nothing", ObserversTest::writerChangesNothing);

        DUE.test("global answers a shared quantity", ObserversTest::globalFields);
        DUE.test("G_LOCK: lock (NONE or a writer number)", ObserversTest::globalLock);
        DUE.test("G_SIZE: the number of keys in instance leftRight", ObserversTest::globalSize);
        DUE.test("global: any other field answers BAD, too small", ObserversTest::globalFieldTooSmall);
        DUE.test("global: any other field answers BAD, too large", ObserversTest::globalFieldTooLarge);
        DUE.test("global changes nothing", ObserversTest::globalChangesNothing);
        DUE.end();
    }

    /** A put of 7 that has flipped and not yet reached the old instance; keys 0 and 9999 stand in both. */
    private static LeftRightMap halfWay() {
        LeftRightMap x = new LeftRightMap(6, 3, 2);
        x.startPut(0, 0, 999999);
        x.run(64);
        x.startPut(0, 9999, 0);
        x.run(64);
        x.startLookup(2, 9999);
        Drive.steps(x, 2, 4);
        x.startPut(1, 7, 70);
        Drive.steps(x, 4, 4);
        return x;
    }

    private static LeftRightMap filled(int count) {
        LeftRightMap x = new LeftRightMap(16, 1, 1);
        Drive.fill(x, count);
        return x;
    }

    private static void peekOfPresentKey() {
        LeftRightMap x = halfWay();
        DUE.due("peek(0)", x.peek(0), 999999);
        DUE.due("peek(9999)", x.peek(9999), 0);
        DUE.due("peek(7)", x.peek(7), 70);
        LeftRightMap y = new LeftRightMap(4, 1, 1);
        y.startPut(0, 7, 70);
        Drive.writerTo(y, 0, LeftRightMap.W_FLIP);
        DUE.due("peek(7) before the flip", y.peek(7), LeftRightMap.ABSENT);
        y.step(1);
        DUE.due("peek(7) after the flip", y.peek(7), 70);
        y.run(64);
        y.startRemove(0, 7);
        Drive.writerTo(y, 0, LeftRightMap.W_FLIP);
        DUE.due("peek(7) before the flip of a remove", y.peek(7), 70);
        y.step(1);
        DUE.due("peek(7) after the flip of a remove", y.peek(7), LeftRightMap.ABSENT);
    }

    private static void peekOfAbsentKey() {
        LeftRightMap x = halfWay();
        for (int key : new int[] {1, 6, 8, 9998}) {
            DUE.due("peek(" + key + ")", x.peek(key), LeftRightMap.ABSENT);
        }
        LeftRightMap y = new LeftRightMap(4, 1, 1);
        DUE.due("peek(0) of the empty map", y.peek(0), LeftRightMap.ABSENT);
        DUE.due("peek(9999) of the empty map", y.peek(9999), LeftRightMap.ABSENT);
        DUE.due("peek(16) of the full map", filled(16).peek(16), LeftRightMap.ABSENT);
    }

    private static void peekKeyTooSmall() {
        for (LeftRightMap x : new LeftRightMap[] {halfWay(), new LeftRightMap(4, 1, 1), filled(16)}) {
            for (int key : KEYS_TOO_SMALL) {
                DUE.due("peek(" + key + ")", x.peek(key), BAD);
            }
            DUE.due("peek(0) is not BAD", x.peek(0) != BAD, true);
        }
    }

    private static void peekKeyTooLarge() {
        for (LeftRightMap x : new LeftRightMap[] {halfWay(), new LeftRightMap(4, 1, 1), filled(16)}) {
            for (int key : KEYS_TOO_LARGE) {
                DUE.due("peek(" + key + ")", x.peek(key), BAD);
            }
            DUE.due("peek(9999) is not BAD", x.peek(9999) != BAD, true);
        }
    }

    private static void peekChangesNothing() {
        LeftRightMap x = halfWay();
        DUE.watch(x);
        for (int key : new int[] {MIN, -1, 0, 7, 8, 9999, 10000, MAX}) {
            x.peek(key);
            DUE.changes("peek(" + key + ")");
        }
    }

    private static void instanceOfPresentKey() {
        LeftRightMap x = halfWay();
        for (int side = 0; side < 2; side++) {
            DUE.due("instance(" + side + ", 0)", x.instance(side, 0), 999999);
            DUE.due("instance(" + side + ", 9999)", x.instance(side, 9999), 0);
        }
        DUE.due("instance(1, 7)", x.instance(1, 7), 70);
        LeftRightMap y = filled(16);
        for (int key = 0; key < 16; key++) {
            DUE.due("instance(0, " + key + ")", y.instance(0, key), 100 + key);
            DUE.due("instance(1, " + key + ")", y.instance(1, key), 100 + key);
        }
    }

    private static void instanceOfAbsentKey() {
        LeftRightMap x = halfWay();
        DUE.due("instance(0, 7)", x.instance(0, 7), LeftRightMap.ABSENT);
        LeftRightMap empty = new LeftRightMap(4, 1, 1);
        for (int side = 0; side < 2; side++) {
            DUE.due("instance(" + side + ", 8)", x.instance(side, 8), LeftRightMap.ABSENT);
            DUE.due("instance(" + side + ", 0)", empty.instance(side, 0), LeftRightMap.ABSENT);
            DUE.due("instance(" + side + ", 9999)", empty.instance(side, 9999), LeftRightMap.ABSENT);
            DUE.due("instance(" + side + ", 16)", filled(16).instance(side, 16), LeftRightMap.ABSENT);
        }
    }

    private static void instanceWrongSide() {
        for (LeftRightMap x : new LeftRightMap[] {halfWay(), new LeftRightMap(4, 1, 1), filled(16)}) {
            for (int side : new int[] {-1, -2, 2, 3, 16, MIN, MIN + 1, MAX - 1, MAX}) {
                for (int key : new int[] {MIN, -1, 0, 7, 9999, 10000, MAX}) {
                    DUE.due("instance(" + side + ", " + key + ")", x.instance(side, key), BAD);
                }
            }
            DUE.due("instance(0, 0) is not BAD", x.instance(0, 0) != BAD, true);
            DUE.due("instance(1, 0) is not BAD", x.instance(1, 0) != BAD, true);
        }
    }

    private static void instanceKeyTooSmall() {
        for (LeftRightMap x : new LeftRightMap[] {halfWay(), new LeftRightMap(4, 1, 1), filled(16)}) {
            for (int side = 0; side < 2; side++) {
                for (int key : KEYS_TOO_SMALL) {
                    DUE.due("instance(" + side + ", " + key + ")", x.instance(side, key), BAD);
                }
                DUE.due("instance(" + side + ", 0) is not BAD", x.instance(side, 0) != BAD, true);
            }
        }
    }

    private static void instanceKeyTooLarge() {
        for (LeftRightMap x : new LeftRightMap[] {halfWay(), new LeftRightMap(4, 1, 1), filled(16)}) {
            for (int side = 0; side < 2; side++) {
                for (int key : KEYS_TOO_LARGE) {
                    DUE.due("instance(" + side + ", " + key + ")", x.instance(side, key), BAD);
                }
                DUE.due("instance(" + side + ", 9999) is not BAD", x.instance(side, 9999) != BAD, true);
            }
        }
    }

    private static void instanceChangesNothing() {
        LeftRightMap x = halfWay();
        DUE.watch(x);
        for (int side : new int[] {MIN, -1, 0, 1, 2, MAX}) {
            for (int key : new int[] {MIN, -1, 0, 7, 8, 9999, 10000, MAX}) {
                x.instance(side, key);
                DUE.changes("instance(" + side + ", " + key + ")");
            }
        }
    }

    private static void readerFields() {
        LeftRightMap x = halfWay();
        DUE.due("reader(2, FIELD_PHASE)", x.reader(2, LeftRightMap.FIELD_PHASE), LeftRightMap.R_DEPART);
        DUE.due("reader(2, FIELD_KEY)", x.reader(2, LeftRightMap.FIELD_KEY), 9999);
        DUE.due("reader(2, FIELD_RESULT)", x.reader(2, LeftRightMap.FIELD_RESULT), 0);
        DUE.due("reader(2, FIELD_VERSION)", x.reader(2, LeftRightMap.FIELD_VERSION), 0);
        DUE.due("reader(2, FIELD_SIDE)", x.reader(2, LeftRightMap.FIELD_SIDE), 0);
    }

    private static void readerTooSmall() {
        for (int readers : new int[] {1, 3, 8}) {
            LeftRightMap x = new LeftRightMap(4, readers, 2);
            for (int r : new int[] {-1, -2, -8, MIN + 1, MIN}) {
                for (int field = -1; field <= 7; field++) {
                    DUE.due("reader(" + r + ", " + field + ")", x.reader(r, field), BAD);
                }
            }
            DUE.due("reader(0, FIELD_PHASE)", x.reader(0, LeftRightMap.FIELD_PHASE), LeftRightMap.R_IDLE);
        }
    }

    private static void readerTooLarge() {
        for (int readers = 1; readers <= 8; readers++) {
            LeftRightMap x = new LeftRightMap(4, readers, 2);
            for (int r : new int[] {readers, readers + 1, 8, 9, 16, MAX - 1, MAX}) {
                for (int field = -1; field <= 7; field++) {
                    DUE.due("reader(" + r + ", " + field + ")", x.reader(r, field), BAD);
                }
            }
            DUE.due("reader of the last", x.reader(readers - 1, LeftRightMap.FIELD_PHASE), LeftRightMap.R_IDLE);
        }
    }

    private static void readerWrongField() {
        LeftRightMap x = halfWay();
        for (int r = 0; r < 3; r++) {
            for (int field : new int[] {5, 6, 7, 8, 10, 11, -1, -2, MIN + 1, MIN, MAX - 1, MAX}) {
                DUE.due("reader(" + r + ", " + field + ")", x.reader(r, field), BAD);
            }
            DUE.due("reader(" + r + ", FIELD_PHASE) is not BAD", x.reader(r, 0) != BAD, true);
            DUE.due("reader(" + r + ", FIELD_SIDE) is not BAD", x.reader(r, 4) != BAD, true);
        }
    }

    private static void readerChangesNothing() {
        LeftRightMap x = halfWay();
        DUE.watch(x);
        for (int r : new int[] {MIN, -1, 0, 2, 3, 8, MAX}) {
            for (int field : new int[] {MIN, -1, 0, 1, 2, 3, 4, 5, 6, 7, MAX}) {
                x.reader(r, field);
                DUE.changes("reader(" + r + ", " + field + ")");
            }
        }
    }

    private static void writerFields() {
        LeftRightMap x = halfWay();
        DUE.due("writer(1, FIELD_PHASE)", x.writer(1, LeftRightMap.FIELD_PHASE), LeftRightMap.W_TOGGLE);
        DUE.due("writer(1, FIELD_KEY)", x.writer(1, LeftRightMap.FIELD_KEY), 7);
        DUE.due("writer(1, FIELD_RESULT)", x.writer(1, LeftRightMap.FIELD_RESULT), LeftRightMap.ABSENT);
        DUE.due("writer(1, FIELD_VERSION)", x.writer(1, LeftRightMap.FIELD_VERSION), 0);
        DUE.due("writer(1, FIELD_SIDE)", x.writer(1, LeftRightMap.FIELD_SIDE), 1);
        DUE.due("writer(1, FIELD_VALUE)", x.writer(1, LeftRightMap.FIELD_VALUE), 70);
        DUE.due("writer(1, FIELD_KIND)", x.writer(1, LeftRightMap.FIELD_KIND), LeftRightMap.KIND_PUT);
    }

    private static void writerTooSmall() {
        for (int writers : new int[] {1, 2, 4}) {
            LeftRightMap x = new LeftRightMap(4, 3, writers);
            for (int w : new int[] {-1, -2, -4, MIN + 1, MIN}) {
                for (int field = -1; field <= 7; field++) {
                    DUE.due("writer(" + w + ", " + field + ")", x.writer(w, field), BAD);
                }
            }
            DUE.due("writer(0, FIELD_PHASE)", x.writer(0, LeftRightMap.FIELD_PHASE), LeftRightMap.W_IDLE);
        }
    }

    private static void writerTooLarge() {
        for (int writers = 1; writers <= 4; writers++) {
            LeftRightMap x = new LeftRightMap(4, 3, writers);
            for (int w : new int[] {writers, writers + 1, 4, 5, 8, MAX - 1, MAX}) {
                for (int field = -1; field <= 7; field++) {
                    DUE.due("writer(" + w + ", " + field + ")", x.writer(w, field), BAD);
                }
            }
            DUE.due("writer of the last", x.writer(writers - 1, LeftRightMap.FIELD_PHASE), LeftRightMap.W_IDLE);
        }
    }

    private static void writerWrongField() {
        LeftRightMap x = halfWay();
        for (int w = 0; w < 2; w++) {
            for (int field : new int[] {7, 8, 9, 10, 11, -1, -2, MIN + 1, MIN, MAX - 1, MAX}) {
                DUE.due("writer(" + w + ", " + field + ")", x.writer(w, field), BAD);
            }
            DUE.due("writer(" + w + ", FIELD_PHASE) is not BAD", x.writer(w, 0) != BAD, true);
            DUE.due("writer(" + w + ", FIELD_KIND) is not BAD", x.writer(w, 6) != BAD, true);
        }
    }

    private static void writerChangesNothing() {
        LeftRightMap x = halfWay();
        DUE.watch(x);
        for (int w : new int[] {MIN, -1, 0, 1, 2, 4, MAX}) {
            for (int field : new int[] {MIN, -1, 0, 1, 2, 3, 4, 5, 6, 7, MAX}) {
                x.writer(w, field);
                DUE.changes("writer(" + w + ", " + field + ")");
            }
        }
    }

    private static void globalFields() {
        LeftRightMap x = halfWay();
        DUE.due("global(G_LEFT_RIGHT)", x.global(LeftRightMap.G_LEFT_RIGHT), 1);
        DUE.due("global(G_VERSION)", x.global(LeftRightMap.G_VERSION), 0);
        DUE.due("global(G_INDICATOR0)", x.global(LeftRightMap.G_INDICATOR0), 1);
        DUE.due("global(G_INDICATOR1)", x.global(LeftRightMap.G_INDICATOR1), 0);
        DUE.due("global(G_LOCK)", x.global(LeftRightMap.G_LOCK), 1);
        DUE.due("global(G_SIZE)", x.global(LeftRightMap.G_SIZE), 3);
        DUE.due("global(G_CURSOR)", x.global(LeftRightMap.G_CURSOR), 4);
        DUE.due("global(G_STEPS)", x.global(LeftRightMap.G_STEPS), 22);
        DUE.due("global(G_CAPACITY)", x.global(LeftRightMap.G_CAPACITY), 6);
        DUE.due("global(G_READERS)", x.global(LeftRightMap.G_READERS), 3);
        DUE.due("global(G_WRITERS)", x.global(LeftRightMap.G_WRITERS), 2);
    }

    private static void globalLock() {
        for (int w = 0; w < 4; w++) {
            LeftRightMap x = new LeftRightMap(4, 8, 4);
            DUE.due("global(G_LOCK) that is free", x.global(LeftRightMap.G_LOCK), LeftRightMap.NONE);
            x.startPut(w, 5, 50);
            x.step(8 + w);
            DUE.due("global(G_LOCK)", x.global(LeftRightMap.G_LOCK), w);
            x.run(64);
            DUE.due("global(G_LOCK) that is free again", x.global(LeftRightMap.G_LOCK), LeftRightMap.NONE);
        }
    }

    /** From empty to full and back; while the instances differ, the size is that of the one for new readers. */
    private static void globalSize() {
        LeftRightMap x = new LeftRightMap(16, 1, 1);
        for (int key = 0; key < 16; key++) {
            x.startPut(0, key, key);
            sizeAround(x, key, key + 1);
        }
        x.startPut(0, 16, 16);
        x.run(64);
        DUE.due("global(G_SIZE) after FULL", x.global(LeftRightMap.G_SIZE), 16);
        for (int key = 0; key < 16; key++) {
            x.startRemove(0, key);
            sizeAround(x, 16 - key, 15 - key);
        }
        x.startRemove(0, 0);
        sizeAround(x, 0, 0);
    }

    private static void sizeAround(LeftRightMap x, int before, int after) {
        Drive.writerTo(x, 0, LeftRightMap.W_FLIP);
        DUE.due("global(G_SIZE) before the flip", x.global(LeftRightMap.G_SIZE), before);
        x.step(1);
        DUE.due("global(G_SIZE) after the flip", x.global(LeftRightMap.G_SIZE), after);
        x.run(64);
        DUE.due("global(G_SIZE) when done", x.global(LeftRightMap.G_SIZE), after);
    }

    private static void globalFieldTooSmall() {
        LeftRightMap x = halfWay();
        for (int field : new int[] {-1, -2, -11, MIN + 1, MIN}) {
            DUE.due("global(" + field + ")", x.global(field), BAD);
        }
        DUE.due("global(0)", x.global(0), 1);
    }

    private static void globalFieldTooLarge() {
        LeftRightMap x = halfWay();
        for (int field : new int[] {11, 12, 16, 100, MAX - 1, MAX}) {
            DUE.due("global(" + field + ")", x.global(field), BAD);
        }
        DUE.due("global(10)", x.global(10), 2);
    }

    private static void globalChangesNothing() {
        LeftRightMap x = halfWay();
        DUE.watch(x);
        for (int field : new int[] {MIN, -1, 0, 1, 2, 3, 4, 5, 6, 7, 8, 9, 10, 11, MAX}) {
            x.global(field);
            DUE.changes("global(" + field + ")");
        }
    }
}
