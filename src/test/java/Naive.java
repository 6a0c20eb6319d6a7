import java.util.ArrayList;
import java.util.HashMap;
import java.util.HashSet;
import java.util.List;
import java.util.Map;
import java.util.Set;
import java.util.TreeMap;

/**
 * The document's description, taken literally and slowly: buffers are lists of entries, and a program
 * with fences is a program with fence instructions.
 */
final class Naive {
    static final int STORE = 0;
    static final int LOAD = 1;
    static final int SWAP = 2;
    static final int FENCE = 3;

    /** An instruction: kind, location, target, constant, source (-1 where there is none), and a label. */
    record Op(int kind, int location, int target, int constant, int source, int label) {
        Op(int kind, int location, int target, int constant, int source) {
            this(kind, location, target, constant, source, -1);
        }
    }

    static final class Prog {
        final List<String> names = new ArrayList<>();
        final List<Integer> initials = new ArrayList<>();
        final List<List<Op>> threads = new ArrayList<>();

        String text() {
            StringBuilder text = new StringBuilder();
            for (int l = 0; l < names.size(); l++) {
                text.append("loc ").append(names.get(l)).append(' ').append(initials.get(l)).append(';');
            }
            for (List<Op> ops : threads) {
                text.append("thread;");
                for (Op op : ops) {
                    text.append(textOf(op)).append(';');
                }
            }
            return text.toString();
        }

        private String textOf(Op op) {
            String value = op.source >= 0 ? "r" + op.source : "" + op.constant;
            switch (op.kind) {
                case STORE:
                    return "store " + names.get(op.location) + " " + value;
                case LOAD:
                    return "load r" + op.target + " " + names.get(op.location);
                case SWAP:
                    return "swap r" + op.target + " " + names.get(op.location) + " " + value;
                default:
                    return "fence";
            }
        }

        int size() {
            return threads.stream().mapToInt(List::size).sum();
        }

        /** The same program, its instructions labelled with their numbers. */
        Prog labelled() {
            Prog copy = emptyCopy();
            int number = 0;
            for (List<Op> ops : threads) {
                List<Op> fresh = new ArrayList<>();
                for (Op op : ops) {
                    fresh.add(new Op(op.kind, op.location, op.target, op.constant, op.source, number++));
                }
                copy.threads.add(fresh);
            }
            return copy;
        }

        private Prog emptyCopy() {
            Prog copy = new Prog();
            copy.names.addAll(names);
            copy.initials.addAll(initials);
            return copy;
        }

        List<Integer> gapPlaces() {
            List<Integer> places = new ArrayList<>();
            int number = 0;
            for (List<Op> ops : threads) {
                for (int i = 0; i < ops.size(); i++, number++) {
                    if (i > 0 && ops.get(i).kind != FENCE && ops.get(i - 1).kind != FENCE) {
                        places.add(number);
                    }
                }
            }
            return places;
        }

        Prog withFences(int gaps) {
            List<Integer> places = gapPlaces();
            Prog copy = emptyCopy();
            int number = 0;
            for (List<Op> ops : threads) {
                List<Op> fresh = new ArrayList<>();
                for (Op op : ops) {
                    int gap = places.indexOf(number++);
                    if (gap >= 0 && (gaps >> gap & 1) != 0) {
                        fresh.add(new Op(FENCE, -1, -1, -1, -1));
                    }
                    fresh.add(op);
                }
                copy.threads.add(fresh);
            }
            return copy;
        }

        Prog without(int instruction) {
            Prog copy = emptyCopy();
            int number = 0;
            for (List<Op> ops : threads) {
                List<Op> fresh = new ArrayList<>();
                for (Op op : ops) {
                    if (number++ != instruction) {
                        fresh.add(op);
                    }
                }
                copy.threads.add(fresh);
            }
            return copy;
        }

        List<Op> all() {
            List<Op> all = new ArrayList<>();
            threads.forEach(all::addAll);
            return all;
        }

        int threadOf(int instruction) {
            int number = 0;
            for (int t = 0; t < threads.size(); t++) {
                number += threads.get(t).size();
                if (instruction < number) {
                    return t;
                }
            }
            return -1;
        }
    }

    /** An entry of a buffer; its label is the number of its store. */
    record Entry(int location, int value, int label) {
    }

    static final class State {
        int[] next;
        int[][] registers;
        int[] memory;
        int[] holders;
        List<List<Entry>> buffers = new ArrayList<>();

        State(Prog prog) {
            next = new int[prog.threads.size()];
            registers = new int[prog.threads.size()][2];
            memory = prog.initials.stream().mapToInt(i -> i).toArray();
            holders = new int[memory.length];
            java.util.Arrays.fill(holders, -1);
            for (int t = 0; t < next.length; t++) {
                buffers.add(new ArrayList<>());
            }
        }

        State(State other) {
            next = other.next.clone();
            registers = new int[other.registers.length][];
            for (int t = 0; t < registers.length; t++) {
                registers[t] = other.registers[t].clone();
            }
            memory = other.memory.clone();
            holders = other.holders.clone();
            for (List<Entry> buffer : other.buffers) {
                buffers.add(new ArrayList<>(buffer));
            }
        }

        /** What makes two states different; labels do not. */
        String key() {
            StringBuilder key = new StringBuilder();
            for (int t = 0; t < next.length; t++) {
                key.append(next[t]).append('/').append(registers[t][0]).append(registers[t][1]);
                for (Entry entry : buffers.get(t)) {
                    key.append('(').append(entry.location).append(entry.value).append(')');
                }
                key.append(',');
            }
            for (int value : memory) {
                key.append(value);
            }
            return key.toString();
        }

        int code() {
            int code = 0;
            for (int[] own : registers) {
                code = 16 * code + 4 * own[0] + own[1];
            }
            for (int value : memory) {
                code = 4 * code + value;
            }
            return code;
        }
    }

    final Prog prog;
    final int model;
    final Map<String, Map<Integer, Long>> executionsFrom = new HashMap<>();
    final Map<Integer, Integer> readValues = new HashMap<>();
    final Set<String> together = new HashSet<>();
    final int[] greatest;
    final TreeMap<Integer, Long> outcomes = new TreeMap<>();

    // What the latest explanation found.
    final List<Integer> steps = new ArrayList<>();
    final Map<Integer, Integer> origins = new HashMap<>();
    final List<List<Integer>> writers = new ArrayList<>();

    Naive(Prog prog, int model) {
        this.prog = prog.labelled();
        this.model = model;
        this.greatest = new int[prog.threads.size()];
        outcomes.putAll(explore(new State(prog)));
    }

    int states() {
        return executionsFrom.size();
    }

    long executions() {
        return outcomes.values().stream().mapToLong(Long::longValue).sum();
    }

    private Map<Integer, Long> explore(State state) {
        String key = state.key();
        Map<Integer, Long> known = executionsFrom.get(key);
        if (known != null) {
            return known;
        }
        Map<Integer, Long> found = new HashMap<>();
        note(state);
        boolean last = true;
        for (int step = 0; step < 40; step++) {
            State after = after(state, step, false);
            if (after != null) {
                last = false;
                explore(after).forEach((code, ways) -> found.merge(code, ways, Long::sum));
            }
        }
        if (last) {
            found.put(state.code(), 1L);
        }
        executionsFrom.put(key, found);
        return found;
    }

    private void note(State state) {
        for (int t = 0; t < state.next.length; t++) {
            greatest[t] = Math.max(greatest[t], state.buffers.get(t).size());
            for (int u = 0; u < state.next.length; u++) {
                if (t != u && state.next[t] < prog.threads.get(t).size() && state.next[u] < prog.threads.get(u).size()) {
                    together.add(prog.threads.get(t).get(state.next[t]).label + "," + prog.threads.get(u).get(state.next[u]).label);
                }
            }
        }
    }

    private State after(State state, int step, boolean explaining) {
        int t = step / 10;
        int part = step % 10;
        if (t >= state.next.length || part > 3) {
            return null;
        }
        State after = new State(state);
        List<Entry> buffer = after.buffers.get(t);
        if (part > 0) {
            int chosen = -1;
            for (int i = 0; i < buffer.size() && chosen < 0; i++) {
                if (buffer.get(i).location == part - 1) {
                    chosen = i;
                }
            }
            if (chosen < 0 || model == 1 && chosen > 0) {
                return null;
            }
            Entry entry = buffer.remove(chosen);
            put(after, entry.location, entry.value, entry.label, explaining);
            return after;
        }
        if (state.next[t] >= prog.threads.get(t).size()) {
            return null;
        }
        Op op = prog.threads.get(t).get(state.next[t]);
        after.next[t]++;
        int value = op.source >= 0 ? state.registers[t][op.source] : op.constant;
        if ((op.kind == FENCE || op.kind == SWAP) && !buffer.isEmpty()) {
            return null;
        }
        if (op.kind == STORE && model == 0 || op.kind == SWAP) {
            if (op.kind == SWAP) {
                read(after, t, op, state.memory[op.location], state.holders[op.location], explaining);
            }
            put(after, op.location, value, op.label, explaining);
        } else if (op.kind == STORE) {
            buffer.add(new Entry(op.location, value, op.label));
        } else if (op.kind == LOAD) {
            Entry latest = null;
            for (Entry entry : buffer) {
                latest = entry.location == op.location ? entry : latest;
            }
            int seen = latest == null ? state.memory[op.location] : latest.value;
            read(after, t, op, seen, latest == null ? state.holders[op.location] : latest.label, explaining);
        }
        return after;
    }

    private void put(State after, int location, int value, int label, boolean explaining) {
        after.memory[location] = value;
        after.holders[location] = label;
        if (explaining) {
            writers.get(location).add(label);
        }
    }

    private void read(State after, int t, Op op, int value, int label, boolean explaining) {
        after.registers[t][op.target] = value;
        readValues.merge(op.label, 1 << value, (a, b) -> a | b);
        if (explaining) {
            origins.put(op.label, label);
        }
    }

    /** Finds the first execution with an outcome. */
    boolean explain(int code) {
        if (!outcomes.containsKey(code)) {
            return false;
        }
        steps.clear();
        origins.clear();
        writers.clear();
        for (int l = 0; l < prog.names.size(); l++) {
            writers.add(new ArrayList<>());
        }
        State state = new State(prog);
        boolean going = true;
        while (going) {
            going = false;
            for (int step = 0; step < 40 && !going; step++) {
                State after = after(state, step, false);
                if (after != null && executionsFrom.get(after.key()).containsKey(code)) {
                    state = after(state, step, true);
                    steps.add(step);
                    going = true;
                }
            }
        }
        return true;
    }

    boolean isRace(int first, int second) {
        Op one = prog.all().get(first);
        Op two = prog.all().get(second);
        if (prog.threadOf(first) == prog.threadOf(second) || one.kind == FENCE || two.kind == FENCE) {
            return false;
        }
        boolean conflict = one.location == two.location && (one.kind != LOAD || two.kind != LOAD)
                && !(one.kind == SWAP && two.kind == SWAP);
        return conflict && together.contains(first + "," + second);
    }
}
