import java.util.ArrayDeque;
import java.util.Arrays;
import java.util.HashSet;
import java.util.Set;

/**
 * Promise 5, "What a reader sees": the two guarantees in every order in which the agents of some small
 * worlds can do their starts and steps, not only in some of them.
 */
public final class ReaderSeesTest {
    private static final Due DUE = new Due();

    /** More states than a right class has in any of the worlds, so that a wrong one comes to an end too. */
    private static final int FAR = 200000;

    private static final int LOOKUP = 0;
    private static final int PUT = 1;
    private static final int REMOVE = 2;

    public static void main(String[] args) {
        String first = "1. it equals the value peek(k) would have answered right after the single step (not the "
            + "whole call: one run call does many steps) in which r did its R_READ_SIDE step";
        String second = "2. for every key k2, instance(s, k2) answers the same value after every call of this same "
            + "lookup that leaves r in R_LOOKUP as it did right after r's R_READ_SIDE step";
        DUE.test(first + ": two of each", () -> twoOfEach().explore(true, false));
        DUE.test(first + ": three readers", () -> threeReaders().explore(true, false));
        DUE.test(first + ": full instances", () -> fullInstances().explore(true, false));
        DUE.test(second + ": two of each", () -> twoOfEach().explore(false, true));
        DUE.test(second + ": three readers", () -> threeReaders().explore(false, true));
        DUE.test(second + ": full instances", () -> fullInstances().explore(false, true));
        DUE.test("each step done inside a run call counts as its own moment", ReaderSeesTest::insideRuns);
        DUE.end();
    }

    private static World twoOfEach() {
        return new World(0, 1, 2, 2, new int[][][] {
            {{LOOKUP, 0}, {LOOKUP, 0}}, {{LOOKUP, 1}},
            {{PUT, 0, 5}, {REMOVE, 0}}, {{PUT, 1, 6}},
        });
    }

    private static World threeReaders() {
        return new World(0, 0, 3, 1, new int[][][] {
            {{LOOKUP, 0}}, {{LOOKUP, 0}}, {{LOOKUP, 0}},
            {{PUT, 0, 1}, {PUT, 0, 2}, {PUT, 0, 3}},
        });
    }

    /** The put of a fifth key is FULL or not, as the remove comes later or earlier. */
    private static World fullInstances() {
        return new World(4, 4, 2, 2, new int[][][] {
            {{LOOKUP, 4}, {LOOKUP, 4}}, {{LOOKUP, 2}},
            {{PUT, 4, 5}, {PUT, 2, 6}}, {{REMOVE, 2}},
        });
    }

    /** What is known of a way through a world: who did the next start or step, and what readers chose. */
    private static final class Way {
        final byte[] agents;
        final int[] peekAtReadSide;
        final int[][] instanceAtReadSide;

        Way(byte[] agents, int[] peekAtReadSide, int[][] instanceAtReadSide) {
            this.agents = agents;
            this.peekAtReadSide = peekAtReadSide;
            this.instanceAtReadSide = instanceAtReadSide;
        }

        Way then(int agent) {
            byte[] longer = Arrays.copyOf(agents, agents.length + 1);
            longer[agents.length] = (byte) agent;
            return new Way(longer, peekAtReadSide.clone(), instanceAtReadSide.clone());
        }
    }

    /** Agents with a list of works each. Ways that lead to the same state go on as one. */
    private static final class World {
        private final int filled;
        private final int lastKey;
        private final int readers;
        private final int writers;
        private final int[][][] works;
        private final Set<String> known = new HashSet<>();
        private final ArrayDeque<Way> open = new ArrayDeque<>();
        private boolean checksResults;
        private boolean checksInstances;
        private LeftRightMap x;
        private int[] begun;
        private int lookupsDone;
        private int waitsForLock;
        private int waitsForNext;
        private int waitsForPrevious;

        World(int filled, int lastKey, int readers, int writers, int[][][] works) {
            this.filled = filled;
            this.lastKey = lastKey;
            this.readers = readers;
            this.writers = writers;
            this.works = works;
        }

        void explore(boolean results, boolean instances) {
            checksResults = results;
            checksInstances = instances;
            open.add(new Way(new byte[0], new int[readers], new int[readers][]));
            int wrongBefore = DUE.wrong();
            while (!open.isEmpty() && known.size() < FAR && DUE.wrong() == wrongBefore) {
                Way way = open.remove();
                for (int agent = 0; agent < readers + writers; agent++) {
                    goOn(way, agent);
                }
            }
            System.out.println(known.size() + " states, " + lookupsDone + " lookups done, waits "
                + waitsForLock + " " + waitsForNext + " " + waitsForPrevious);
            DUE.due("many states were met, and all of them", known.size() > 1000 && known.size() < FAR, true);
            DUE.due("lookups came to their end", lookupsDone > 1000, true);
            DUE.due("writers waited for the lock", waitsForLock > 0, writers > 1);
            DUE.due("writers waited in W_DRAIN_NEXT", waitsForNext > 0, true);
            DUE.due("writers waited in W_DRAIN_PREV", waitsForPrevious > 0, true);
        }

        private void goOn(Way way, int agent) {
            x = new LeftRightMap(4, readers, writers);
            Drive.fill(x, filled);
            begun = new int[readers + writers];
            for (byte earlier : way.agents) {
                act(earlier);
            }
            int before = phase(agent);
            if (!act(agent)) {
                return;
            }
            Way next = way.then(agent);
            if (agent < readers) {
                lookAt(next, agent, before);
            } else if (before == phase(agent)) {
                countWait(before);
            }
            if (checksInstances) {
                chosenInstancesStay(next);
            }
            if (known.add(state(next))) {
                open.add(next);
            }
        }

        /** The agent's next step or, if it is not active, the start of its next work. */
        private boolean act(int agent) {
            if (x.step(agent) != LeftRightMap.STEP_NONE) {
                return true;
            }
            if (begun[agent] == works[agent].length) {
                return false;
            }
            int[] work = works[agent][begun[agent]];
            begun[agent]++;
            if (work[0] == LOOKUP) {
                return x.startLookup(agent, work[1]);
            }
            int w = agent - readers;
            return work[0] == PUT ? x.startPut(w, work[1], work[2]) : x.startRemove(w, work[1]);
        }

        private int phase(int agent) {
            return agent < readers
                ? x.reader(agent, LeftRightMap.FIELD_PHASE)
                : x.writer(agent - readers, LeftRightMap.FIELD_PHASE);
        }

        private void lookAt(Way way, int r, int before) {
            if (before == LeftRightMap.R_READ_SIDE) {
                way.peekAtReadSide[r] = x.peek(x.reader(r, LeftRightMap.FIELD_KEY));
                way.instanceAtReadSide[r] = instance(x.reader(r, LeftRightMap.FIELD_SIDE));
            } else if (before == LeftRightMap.R_DEPART) {
                lookupsDone++;
                if (checksResults) {
                    DUE.due("reader(" + r + ", FIELD_RESULT) after " + Arrays.toString(way.agents),
                        x.reader(r, LeftRightMap.FIELD_RESULT), way.peekAtReadSide[r]);
                }
            }
        }

        private void countWait(int phase) {
            waitsForLock += phase == LeftRightMap.W_LOCK ? 1 : 0;
            waitsForNext += phase == LeftRightMap.W_DRAIN_NEXT ? 1 : 0;
            waitsForPrevious += phase == LeftRightMap.W_DRAIN_PREV ? 1 : 0;
        }

        private void chosenInstancesStay(Way way) {
            for (int r = 0; r < readers; r++) {
                if (x.reader(r, LeftRightMap.FIELD_PHASE) == LeftRightMap.R_LOOKUP) {
                    int[] now = instance(x.reader(r, LeftRightMap.FIELD_SIDE));
                    DUE.due("the instance that reader " + r + " chose is as it was, after "
                        + Arrays.toString(way.agents), Arrays.equals(now, way.instanceAtReadSide[r]), true);
                }
            }
        }

        private int[] instance(int side) {
            int[] values = new int[lastKey + 1];
            for (int key = 0; key <= lastKey; key++) {
                values[key] = x.instance(side, key);
            }
            return values;
        }

        /** All but steps, which no guarantee speaks of and which a wait would make new for ever. */
        private String state(Way way) {
            StringBuilder state = new StringBuilder();
            state.append(Arrays.toString(begun));
            state.append(Arrays.toString(instance(0))).append(Arrays.toString(instance(1)));
            for (int field = LeftRightMap.G_LEFT_RIGHT; field <= LeftRightMap.G_LOCK; field++) {
                state.append(x.global(field)).append(' ');
            }
            for (int r = 0; r < readers; r++) {
                readerState(state, way, r);
            }
            for (int w = 0; w < writers; w++) {
                for (int field = LeftRightMap.FIELD_PHASE; field <= LeftRightMap.FIELD_KIND; field++) {
                    state.append(x.writer(w, field)).append(' ');
                }
            }
            return state.toString();
        }

        private void readerState(StringBuilder state, Way way, int r) {
            for (int field = LeftRightMap.FIELD_PHASE; field <= LeftRightMap.FIELD_SIDE; field++) {
                state.append(x.reader(r, field)).append(' ');
            }
            int phase = x.reader(r, LeftRightMap.FIELD_PHASE);
            if (phase == LeftRightMap.R_LOOKUP || phase == LeftRightMap.R_DEPART) {
                state.append(way.peekAtReadSide[r]).append(Arrays.toString(way.instanceAtReadSide[r]));
            }
        }
    }

    /** One run call against the same steps in runs of one step, which show each moment. */
    private static void insideRuns() {
        for (int ahead = 0; ahead <= 7; ahead++) {
            for (int n = 1; n <= 64; n++) {
                LeftRightMap whole = writerAhead(ahead);
                LeftRightMap single = writerAhead(ahead);
                int done = whole.run(n);
                int peekAtReadSide = LeftRightMap.BAD;
                for (int i = 0; i < done; i++) {
                    int before = single.reader(0, LeftRightMap.FIELD_PHASE);
                    single.run(1);
                    if (before == LeftRightMap.R_READ_SIDE && single.reader(0, LeftRightMap.FIELD_PHASE) != before) {
                        peekAtReadSide = single.peek(7);
                    }
                }
                String call = "run(" + n + ") with the writer " + ahead + " steps ahead";
                DUE.sameState(call, State.of(whole, 10), State.of(single, 10));
                if (whole.reader(0, LeftRightMap.FIELD_PHASE) == LeftRightMap.R_DONE) {
                    DUE.due(call + " result", whole.reader(0, LeftRightMap.FIELD_RESULT), peekAtReadSide);
                }
            }
        }
    }

    private static LeftRightMap writerAhead(int steps) {
        LeftRightMap x = new LeftRightMap(4, 2, 2);
        Drive.put(x, 0, 7, 70);
        x.startPut(0, 7, 71);
        Drive.steps(x, 2, steps);
        x.startLookup(0, 7);
        x.startLookup(1, 7);
        x.startRemove(1, 7);
        return x;
    }
}
