import java.util.Map;
import java.util.TreeMap;

/** Counts the answers that are not as due, and watches what each call changes. */
final class Due {
    private int wrong = 0;
    private int checked = 0;
    private int tests = 0;
    private LeftRightMap watched;
    private Map<String, Integer> seen;

    /**
     * The test of one sentence of the document, told by the sentence's own words. One that fails does not
     * keep the next ones from running, and one that checks nothing fails.
     */
    void test(String sentence, Runnable body) {
        tests++;
        int wrongBefore = wrong;
        int checkedBefore = checked;
        watched = null;
        try {
            body.run();
        } catch (RuntimeException | StackOverflowError thrown) {
            wrong++;
            System.out.println("thrown: " + thrown + " at " + thrown.getStackTrace()[0]);
        }
        if (checked == checkedBefore) {
            wrong++;
            System.out.println("nothing was checked");
        }
        if (wrong != wrongBefore) {
            System.out.println("^ in the test of: " + sentence);
        }
    }

    void due(String call, long got, long want) {
        checked++;
        if (got != want) {
            wrong++;
            System.out.println(call + " answered " + got + ", due is " + want);
        }
    }

    void due(String call, boolean got, boolean want) {
        due(call, got ? 1 : 0, want ? 1 : 0);
    }

    /** From here on, changes() tells what is due against the state that x has now. */
    void watch(LeftRightMap x) {
        watched = x;
        seen = State.of(x, LeftRightMap.MAX_KEY);
    }

    /**
     * Since the last watch or changes, the watched object changed in these names and values
     * (name, value, name, value, ..) and in nothing else.
     */
    void changes(String call, Object... namesAndValues) {
        Map<String, Integer> want = new TreeMap<>(seen);
        for (int i = 0; i < namesAndValues.length; i += 2) {
            want.put((String) namesAndValues[i], (Integer) namesAndValues[i + 1]);
        }
        want.values().removeIf(value -> value == State.GONE);
        Map<String, Integer> got = State.of(watched, LeftRightMap.MAX_KEY);
        sameState(call, got, want);
        seen = got;
    }

    void sameState(String call, Map<String, Integer> got, Map<String, Integer> want) {
        checked++;
        if (got.equals(want)) {
            return;
        }
        wrong++;
        Map<String, Integer> names = new TreeMap<>(want);
        names.putAll(got);
        for (String name : names.keySet()) {
            Integer has = got.get(name);
            Integer should = want.get(name);
            if (has == null || !has.equals(should)) {
                System.out.println("after " + call + ": " + name + " is " + has + ", due is " + should);
            }
        }
    }

    int wrong() {
        return wrong;
    }

    void end() {
        System.out.println(tests + " tests, " + checked + " checks, " + wrong + " not as due");
        if (wrong != 0 || checked == 0) {
            System.exit(1);
        }
    }
}
