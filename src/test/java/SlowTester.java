import java.util.ArrayList;
import java.util.HashMap;
import java.util.List;
import java.util.Map;
import java.util.NoSuchElementException;
import java.util.TreeSet;
import java.util.regex.Matcher;
import java.util.regex.Pattern;

/**
 * The whole face a second time, each method as the document words it: no answer is kept but the executions
 * themselves ({@link Naive}), every change makes a new program, and undoing takes the former one back.
 */
final class SlowTester {
    private static final int NONE = -1;
    private static final int MOST_CHANGES = 8;

    private StringBuilder buffer = new StringBuilder();
    private String output = "";
    private Naive.Prog prog = new Naive.Prog();
    private Condition condition = null;
    private final List<Naive.Prog> former = new ArrayList<>();
    private Explained explanation = null;
    private final Map<String, Naive> executed = new HashMap<>();

    private record Explained(List<Integer> steps, Map<Integer, Integer> origins, List<List<Integer>> writers) {
    }

    // ---- program

    int append(int a, int b, int c, int d, int e) {
        if (buffer.length() + 20 > 600) {
            return NONE;
        }
        for (int four : new int[] {a, b, c, d, e}) {
            for (int shift = 24; shift >= 0; shift -= 8) {
                buffer.append((char) (four >>> shift & 255));
            }
        }
        return buffer.length();
    }

    boolean truncate(int length) {
        if (length < 0 || length > buffer.length()) {
            return false;
        }
        buffer.setLength(length);
        return true;
    }

    int bufferLength() {
        return buffer.length();
    }

    private String takeBuffer() {
        String text = buffer.toString();
        buffer = new StringBuilder();
        return text;
    }

    int define() {
        String text = takeBuffer();
        int due = SlowReader.due(text);
        if (due < 0) {
            return due;
        }
        Builder builder = new Builder(text);
        prog = builder.prog;
        condition = builder.condition;
        former.clear();
        explanation = null;
        executed.clear();
        return prog.size();
    }

    int threadCount() {
        return prog.threads.size();
    }

    int locationCount() {
        return prog.names.size();
    }

    int instructionCount() {
        return prog.size();
    }

    private Naive.Op op(int instruction) {
        if (instruction < 0 || instruction >= prog.size()) {
            throw new IndexOutOfBoundsException();
        }
        return prog.all().get(instruction);
    }

    int instruction(int instruction, int what) {
        Naive.Op op = op(instruction);
        int[] properties = {prog.threadOf(instruction), op.kind(), op.location(), op.target(), op.constant(), op.source()};
        return what < 0 || what > 5 ? NONE : properties[what];
    }

    int findLocation() {
        return prog.names.indexOf(takeBuffer());
    }

    int write() {
        output = prog.text();
        return output.length();
    }

    int outputByte(int index) {
        if (index < 0 || index >= output.length()) {
            throw new NoSuchElementException();
        }
        return output.charAt(index);
    }

    // ---- outcomes

    private static void requireModel(int model) {
        if (model != 0 && model != 1 && model != 2) {
            throw new IllegalArgumentException();
        }
    }

    private Naive executed(Naive.Prog which, int model) {
        return executed.computeIfAbsent(model + which.text(), key -> new Naive(which, model));
    }

    private Naive naive(int model) {
        requireModel(model);
        return executed(prog, model);
    }

    int outcomeCount(int model) {
        return naive(model).outcomes.size();
    }

    int outcome(int model, int index) {
        List<Integer> codes = new ArrayList<>(naive(model).outcomes.keySet());
        return index < 0 || index >= codes.size() ? NONE : codes.get(index);
    }

    boolean hasOutcome(int model, int code) {
        return naive(model).outcomes.containsKey(code);
    }

    int extraOutcomes(int model, int other) {
        requireModel(model);
        requireModel(other);
        TreeSet<Integer> extra = new TreeSet<>(naive(model).outcomes.keySet());
        extra.removeAll(naive(other).outcomes.keySet());
        return extra.size();
    }

    boolean fulfils(int code) {
        int digits = 2 * prog.threads.size() + prog.names.size();
        return code >= 0 && code < Math.pow(4, digits) && holds(code);
    }

    private boolean holds(int code) {
        return condition == null || Condition.holds(condition, prog, code);
    }

    private List<Integer> matches(Naive naive) {
        return naive.outcomes.keySet().stream().filter(this::holds).toList();
    }

    int matchCount(int model) {
        return matches(naive(model)).size();
    }

    int firstMatch(int model) {
        List<Integer> matches = matches(naive(model));
        return matches.isEmpty() ? NONE : matches.get(0);
    }

    int stateCount(int model) {
        return naive(model).states();
    }

    long executionCount(int model) {
        return naive(model).executions();
    }

    long executionsWith(int model, int code) {
        return naive(model).outcomes.getOrDefault(code, 0L);
    }

    private boolean reads(Naive.Op op) {
        return op.kind() == Naive.LOAD || op.kind() == Naive.SWAP;
    }

    int readValues(int model, int instruction) {
        requireModel(model);
        if (!reads(op(instruction))) {
            throw new NoSuchElementException();
        }
        return naive(model).readValues.get(instruction);
    }

    private void requireLocation(int location) {
        if (location < 0 || location >= prog.names.size()) {
            throw new IndexOutOfBoundsException();
        }
    }

    int finalValues(int model, int location) {
        requireModel(model);
        requireLocation(location);
        int behind = prog.names.size() - 1 - location;
        return naive(model).outcomes.keySet().stream().mapToInt(code -> 1 << (code >> 2 * behind & 3)).reduce(0, (a, b) -> a | b);
    }

    int greatestBuffer(int model, int thread) {
        requireModel(model);
        if (thread < 0 || thread >= prog.threads.size()) {
            throw new IndexOutOfBoundsException();
        }
        return naive(model).greatest[thread];
    }

    // ---- races

    boolean isRace(int first, int second) {
        op(first);
        op(second);
        return naive(0).isRace(first, second);
    }

    int raceCount() {
        int races = 0;
        for (int second = 0; second < prog.size(); second++) {
            for (int first = 0; first < second; first++) {
                races += naive(0).isRace(first, second) ? 1 : 0;
            }
        }
        return races;
    }

    // ---- fences

    int gapCount() {
        return prog.gapPlaces().size();
    }

    int gapBefore(int gap) {
        return gap < 0 || gap >= gapCount() ? NONE : prog.gapPlaces().get(gap);
    }

    int matchesWith(int model, int gaps) {
        requireModel(model);
        for (int bit = gapCount(); bit < 32; bit++) {
            if ((gaps >> bit & 1) != 0) {
                throw new IllegalArgumentException();
            }
        }
        return matches(executed(prog.withFences(gaps), model)).size();
    }

    private interface Wish {
        boolean isGranted(Naive fenced);
    }

    private int smallest(int model, Wish wish) {
        requireModel(model);
        int best = NONE;
        for (int set = 0; set < 1 << gapCount(); set++) {
            boolean fewer = best == NONE || Integer.bitCount(set) < Integer.bitCount(best);
            if (fewer && wish.isGranted(executed(prog.withFences(set), model))) {
                best = set;
            }
        }
        return best;
    }

    int fewestFences(int model) {
        return smallest(model, fenced -> matches(fenced).isEmpty());
    }

    int repairingFences(int model) {
        return smallest(model, fenced -> fenced.outcomes.keySet().equals(naive(0).outcomes.keySet()));
    }

    private void requireFence(int instruction) {
        if (op(instruction).kind() != Naive.FENCE) {
            throw new NoSuchElementException();
        }
    }

    boolean isFenceNeeded(int model, int instruction) {
        requireModel(model);
        requireFence(instruction);
        return !executed(prog.without(instruction), model).outcomes.keySet().equals(naive(model).outcomes.keySet());
    }

    private void change(Naive.Prog changed) {
        former.add(prog);
        if (former.size() > MOST_CHANGES) {
            former.remove(0);
        }
        prog = changed;
        explanation = null;
    }

    int insertFence(int gap) {
        int place = gapBefore(gap);
        if (place == NONE) {
            throw new IndexOutOfBoundsException();
        }
        if (prog.threads.get(prog.threadOf(place)).size() == 7 || prog.size() == 10) {
            throw new IllegalStateException();
        }
        change(prog.withFences(1 << gap));
        return place;
    }

    int removeFence(int instruction) {
        requireFence(instruction);
        change(prog.without(instruction));
        return prog.size();
    }

    int undo() {
        if (former.isEmpty()) {
            return NONE;
        }
        prog = former.remove(former.size() - 1);
        explanation = null;
        return former.size();
    }

    // ---- explanation

    int explain(int model, int code) {
        Naive naive = naive(model);
        if (!naive.explain(code)) {
            return NONE;
        }
        explanation = new Explained(List.copyOf(naive.steps), Map.copyOf(naive.origins),
                naive.writers.stream().map(List::copyOf).toList());
        return naive.steps.size();
    }

    int step(int index) {
        return explanation == null || index < 0 || index >= explanation.steps.size() ? NONE : explanation.steps.get(index);
    }

    int readsFrom(int instruction) {
        if (!reads(op(instruction)) || explanation == null) {
            throw new NoSuchElementException();
        }
        return explanation.origins.get(instruction);
    }

    int writtenBy(int location, int index) {
        requireLocation(location);
        if (explanation == null || index < 0 || index >= explanation.writers.get(location).size()) {
            return NONE;
        }
        return explanation.writers.get(location).get(index);
    }

    /** Makes a program and a condition of a text in which {@link SlowReader} found no error. */
    private static final class Builder {
        final Naive.Prog prog = new Naive.Prog();
        Condition condition = null;
        private final List<String> tokens = new ArrayList<>();
        private int at = 0;

        Builder(String text) {
            Matcher matcher = Pattern.compile("[a-z][a-z0-9]*|[0-9]+|[^ \n]", Pattern.DOTALL).matcher(text);
            while (matcher.find()) {
                tokens.add(matcher.group());
            }
            while (isPassed("loc")) {
                prog.names.add(take());
                prog.initials.add(Integer.parseInt(take()));
                take();
            }
            while (isPassed("thread")) {
                take();
                prog.threads.add(new ArrayList<>());
                while (at < tokens.size() && List.of("store", "load", "swap", "fence").contains(tokens.get(at))) {
                    prog.threads.get(prog.threads.size() - 1).add(op());
                }
            }
            if (isPassed("exists")) {
                condition = condition();
            }
        }

        private String take() {
            return tokens.get(at++);
        }

        private boolean isPassed(String token) {
            boolean same = at < tokens.size() && tokens.get(at).equals(token);
            at += same ? 1 : 0;
            return same;
        }

        private Naive.Op op() {
            int kind = List.of("store", "load", "swap", "fence").indexOf(take());
            int target = kind == Naive.LOAD || kind == Naive.SWAP ? register(take()) : NONE;
            int location = kind == Naive.FENCE ? NONE : prog.names.indexOf(take());
            String value = kind == Naive.STORE || kind == Naive.SWAP ? take() : "";
            take();
            int source = value.startsWith("r") ? register(value) : NONE;
            int constant = value.isEmpty() || source != NONE ? NONE : Integer.parseInt(value);
            return new Naive.Op(kind, location, target, constant, source);
        }

        private static int register(String token) {
            return token.charAt(1) - '0';
        }

        private Condition condition() {
            Condition all = conjunction();
            while (isPassed("or")) {
                all = new Condition.Or(all, conjunction());
            }
            return all;
        }

        private Condition conjunction() {
            Condition all = unit();
            while (isPassed("and")) {
                all = new Condition.And(all, unit());
            }
            return all;
        }

        private Condition unit() {
            if (isPassed("not")) {
                return new Condition.Not(unit());
            }
            if (isPassed("(")) {
                Condition inner = condition();
                take();
                return inner;
            }
            String first = take();
            int thread = NONE;
            int index = prog.names.indexOf(first);
            if (isPassed(":")) {
                thread = Integer.parseInt(first);
                index = register(take());
            }
            boolean less = take().equals("<");
            return new Condition.Comparison(thread, index, first, less, Integer.parseInt(take()));
        }
    }
}
