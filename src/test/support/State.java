import java.util.Map;
import java.util.TreeMap;

/** Everything that the public face shows of an object, by name. Keys that are absent have no entry. */
final class State {
    /** As the value of an instance's key: the key is not there. */
    static final int GONE = LeftRightMap.ABSENT;

    private static final String[] FIELDS = {"phase", "key", "result", "version", "side", "value", "kind"};
    private static final String[] GLOBALS = {
        "leftRight", "versionIndex", "indicator0", "indicator1", "lock", "size", "cursor", "steps",
        "capacity", "readers", "writers"
    };

    static Map<String, Integer> of(LeftRightMap x, int lastKey) {
        Map<String, Integer> state = new TreeMap<>();
        for (int field = 0; field < GLOBALS.length; field++) {
            putUnlessGone(state, GLOBALS[field], x.global(field));
        }
        for (int r = 0; r < x.global(LeftRightMap.G_READERS); r++) {
            for (int field = 0; field < 5; field++) {
                putUnlessGone(state, "r" + r + " " + FIELDS[field], x.reader(r, field));
            }
        }
        for (int w = 0; w < x.global(LeftRightMap.G_WRITERS); w++) {
            for (int field = 0; field < 7; field++) {
                putUnlessGone(state, "w" + w + " " + FIELDS[field], x.writer(w, field));
            }
        }
        for (int key = 0; key <= lastKey; key++) {
            for (int side = 0; side < 2; side++) {
                int value = x.instance(side, key);
                if (value != GONE) {
                    state.put("i" + side + " " + key, value);
                }
            }
            int value = x.peek(key);
            if (value != GONE) {
                state.put("peek " + key, value);
            }
        }
        return state;
    }

    // NONE and ABSENT are the same number, so a field that is NONE has no entry either.
    private static void putUnlessGone(Map<String, Integer> state, String name, int value) {
        if (value != GONE) {
            state.put(name, value);
        }
    }
}
