import java.util.Map;
import java.util.TreeMap;

/**
 * The document once more, written apart from the class: maps for the instances, an object for each agent.
 * It also checks what a reader sees, at every single step.
 */
final class Model {
    private static final class Agent {
        int phase = 0;
        int key = -1;
        int result = -3;
        int version = -1;
        int side = -1;
        int value = -1;
        int kind = 0;
        int peekAtReadSide;
        Map<Integer, Integer> instanceAtReadSide;

        void start(int kind, int key, int value) {
            this.kind = kind;
            this.key = key;
            this.value = value;
            phase = 1;
            result = -3;
            version = -1;
            side = -1;
        }
    }

    private final Due due;
    private final int capacity;
    private final Agent[] readers;
    private final Agent[] writers;
    private final Map<Integer, TreeMap<Integer, Integer>> sides = new TreeMap<>();
    private final int[] indicator = new int[2];
    private int leftRight;
    private int versionIndex;
    private int lock = -1;
    private int cursor;
    private int steps;

    Model(Due due, int capacity, int readers, int writers) {
        this.due = due;
        this.capacity = capacity;
        this.readers = agents(readers);
        this.writers = agents(writers);
        sides.put(0, new TreeMap<>());
        sides.put(1, new TreeMap<>());
    }

    private static Agent[] agents(int count) {
        Agent[] agents = new Agent[count];
        for (int i = 0; i < count; i++) {
            agents[i] = new Agent();
        }
        return agents;
    }

    boolean startLookup(int r, int key) {
        if (r < 0 || r >= readers.length || readers[r].phase % 6 != 0 || key < 0 || key > 9999) {
            return false;
        }
        readers[r].start(0, key, -1);
        return true;
    }

    boolean startWrite(int kind, int w, int key, int value) {
        if (w < 0 || w >= writers.length || writers[w].phase % 8 != 0 || key < 0 || key > 9999) {
            return false;
        }
        if (kind == 1 && (value < 0 || value > 999999)) {
            return false;
        }
        writers[w].start(kind, key, kind == 1 ? value : -1);
        return true;
    }

    private boolean active(int agent) {
        return agent < readers.length
            ? readers[agent].phase % 6 != 0
            : writers[agent - readers.length].phase % 8 != 0;
    }

    int step(int agent) {
        if (agent < 0 || agent >= readers.length + writers.length || !active(agent)) {
            return 0;
        }
        steps++;
        boolean moved = agent < readers.length
            ? moveReader(readers[agent])
            : moveWriter(agent - readers.length, writers[agent - readers.length]);
        guarantees();
        return moved ? 1 : 2;
    }

    int run(int n) {
        int agents = readers.length + writers.length;
        int done = 0;
        while (done < Math.min(n, 64)) {
            int ahead = 0;
            while (ahead < agents && !active((cursor + ahead) % agents)) {
                ahead++;
            }
            if (ahead == agents) {
                break;
            }
            int agent = (cursor + ahead) % agents;
            step(agent);
            cursor = (agent + 1) % agents;
            done++;
        }
        return done;
    }

    private boolean moveReader(Agent reader) {
        if (reader.phase == 1) {
            reader.version = versionIndex;
        } else if (reader.phase == 2) {
            indicator[reader.version]++;
        } else if (reader.phase == 3) {
            reader.side = leftRight;
            reader.peekAtReadSide = sides.get(leftRight).getOrDefault(reader.key, -1);
            reader.instanceAtReadSide = new TreeMap<>(sides.get(leftRight));
        } else if (reader.phase == 4) {
            reader.result = sides.get(reader.side).getOrDefault(reader.key, -1);
        } else {
            indicator[reader.version]--;
            due.due("result of a lookup", reader.result, reader.peekAtReadSide);
        }
        reader.phase++;
        return true;
    }

    private boolean moveWriter(int w, Agent writer) {
        if (writer.phase == 1) {
            if (lock != -1) {
                return false;
            }
            lock = w;
        } else if (writer.phase == 2) {
            writer.side = 1 - leftRight;
            writer.result = update(writer, writer.side);
            if (writer.result == -2) {
                lock = -1;
                writer.phase = 8;
                return true;
            }
        } else if (writer.phase == 3) {
            leftRight = writer.side;
        } else if (writer.phase == 4) {
            writer.version = versionIndex;
            if (indicator[1 - writer.version] != 0) {
                return false;
            }
        } else if (writer.phase == 5) {
            versionIndex = 1 - writer.version;
        } else if (writer.phase == 6) {
            if (indicator[writer.version] != 0) {
                return false;
            }
        } else {
            due.due("update of the old instance", update(writer, 1 - writer.side), writer.result);
            lock = -1;
        }
        writer.phase++;
        return true;
    }

    private int update(Agent writer, int side) {
        TreeMap<Integer, Integer> instance = sides.get(side);
        int old = instance.getOrDefault(writer.key, -1);
        if (writer.kind == 2) {
            instance.remove(writer.key);
        } else if (old == -1 && instance.size() == capacity) {
            return -2;
        } else {
            instance.put(writer.key, writer.value);
        }
        return old;
    }

    private void guarantees() {
        for (Agent reader : readers) {
            if (reader.phase == 4) {
                due.due("a chosen instance stays as it was",
                    reader.instanceAtReadSide.equals(sides.get(reader.side)), true);
            }
        }
        if (lock == -1) {
            due.due("instances alike while nobody has the lock", sides.get(0).equals(sides.get(1)), true);
        }
    }

    /** How many waits a reader's counter can cause now: the guarantees mean little if this stays 0. */
    int readersInside() {
        return indicator[0] + indicator[1];
    }

    Map<String, Integer> state() {
        Map<String, Integer> state = new TreeMap<>();
        state.put("leftRight", leftRight);
        state.put("versionIndex", versionIndex);
        state.put("indicator0", indicator[0]);
        state.put("indicator1", indicator[1]);
        state.put("lock", lock);
        state.put("size", sides.get(leftRight).size());
        state.put("cursor", cursor);
        state.put("steps", steps);
        state.put("capacity", capacity);
        state.put("readers", readers.length);
        state.put("writers", writers.length);
        for (int r = 0; r < readers.length; r++) {
            agentState(state, "r" + r, readers[r]);
        }
        for (int w = 0; w < writers.length; w++) {
            agentState(state, "w" + w, writers[w]);
            state.put("w" + w + " value", writers[w].value);
            state.put("w" + w + " kind", writers[w].kind);
        }
        state.values().removeIf(value -> value == State.GONE);
        sides.forEach((side, instance) -> instance.forEach((key, value) -> state.put("i" + side + " " + key, value)));
        sides.get(leftRight).forEach((key, value) -> state.put("peek " + key, value));
        return state;
    }

    private static void agentState(Map<String, Integer> state, String who, Agent agent) {
        state.put(who + " phase", agent.phase);
        state.put(who + " key", agent.key);
        state.put(who + " result", agent.result);
        state.put(who + " version", agent.version);
        state.put(who + " side", agent.side);
    }
}
