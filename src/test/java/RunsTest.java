import java.lang.reflect.InvocationTargetException;
import java.lang.reflect.Method;
import java.util.ArrayList;
import java.util.Arrays;
import java.util.HashMap;
import java.util.List;
import java.util.Map;
import java.util.TreeSet;

/**
 * Random runs of 512 calls, each call made to the class and to {@link SlowTester}: what a call leaves behind
 * for later ones must be the same as well. Takes rounds, seed, accesses.
 */
public final class RunsTest {
    private static final int MOST_CALLS = 512;
    private static final String[] NAMES = {"x", "flag", "abcdefgh", "r", "y", "lock", "", "xx", "x ", "r0", "abcdefghi", "X"};
    private static final int[] WILD = {Integer.MIN_VALUE, Integer.MAX_VALUE, -2, 3, 4, 11, 16, 31, 32, 33, 64, 1 << 22, 1 << 30};

    /** Each method with the kinds of its arguments; those that later answers depend on stand here more often. */
    private static final String[] CALLS = {"truncate length", "bufferLength", "threadCount", "locationCount",
        "instructionCount", "instruction instruction what", "write", "outputByte byte", "outputByte byte",
        "outcomeCount model", "outcome model index", "hasOutcome model code", "extraOutcomes model model", "fulfils code",
        "matchCount model", "firstMatch model", "stateCount model", "executionCount model", "executionsWith model code",
        "readValues model instruction", "finalValues model location", "greatestBuffer model thread",
        "isRace instruction instruction", "raceCount", "gapCount", "gapBefore gap", "matchesWith model gaps",
        "matchesWith model gaps", "fewestFences model", "repairingFences model", "isFenceNeeded model instruction",
        "isFenceNeeded model fence", "insertFence gap", "insertFence gap", "removeFence fence", "removeFence instruction",
        "undo", "undo", "explain model code", "explain model code", "step index", "step index", "readsFrom instruction",
        "readsFrom instruction", "writtenBy location index", "writtenBy location index"};

    private static final Map<String, Method> FAST = methods(LitmusTester.class);
    private static final Map<String, Method> SLOW = methods(SlowTester.class);
    private static final TreeSet<String> MADE = new TreeSet<>();
    private static int refused = 0;

    private final Dice dice;
    private final int accesses;
    private final LitmusTester fast = new LitmusTester();
    private final SlowTester slow = new SlowTester();
    private final List<String> run = new ArrayList<>();
    private boolean same = true;

    private RunsTest(Dice dice, int accesses) {
        this.dice = dice;
        this.accesses = accesses;
    }

    public static void main(String[] args) {
        int rounds = args.length > 0 ? Integer.parseInt(args[0]) : 120;
        Dice dice = new Dice(args.length > 1 ? Long.parseLong(args[1]) : 5);
        int accesses = args.length > 2 ? Integer.parseInt(args[2]) : 5;
        for (int round = 0; round < rounds; round++) {
            new RunsTest(dice, accesses).make();
        }
        Check.equal("methods that were called", MADE, new TreeSet<>(FAST.keySet()));
        Check.yes("many calls are refused", refused > 20 * rounds);
        Check.end();
    }

    private static Map<String, Method> methods(Class<?> of) {
        Map<String, Method> found = new HashMap<>();
        for (Method method : of.getDeclaredMethods()) {
            if (!java.lang.reflect.Modifier.isPrivate(method.getModifiers())) {
                method.setAccessible(true);
                found.put(method.getName(), method);
            }
        }
        return found;
    }

    private void make() {
        while (run.size() < MOST_CALLS && same) {
            int kind = dice.below(30);
            if (kind == 0) {
                bringText();
            } else if (kind == 1) {
                bringBytes(NAMES[dice.below(NAMES.length)]);
                call("findLocation");
            } else if (kind == 2) {
                changeOften();
            } else {
                String[] parts = CALLS[dice.below(CALLS.length)].split(" ");
                int[] arguments = new int[parts.length - 1];
                for (int i = 0; i < arguments.length; i++) {
                    arguments[i] = argument(parts[i + 1]);
                }
                call(parts[0], arguments);
            }
        }
    }

    /** A text is mostly a good one, mostly brought whole, and mostly read. */
    private void bringText() {
        String text = TextFuzzTest.spoilt(dice, accesses, dice.below(4) == 0 ? 1 + dice.below(3) : 0);
        if (dice.below(12) == 0) {
            text = text.replace(";", dice.below(2) == 0 ? " \n ; " : ";          ");
        }
        if (dice.below(4) != 0) {
            call("truncate", 0);
        }
        bringBytes(text);
        if (dice.below(12) != 0) {
            call("define");
        }
    }

    /** More changes than can be undone, and then often as many undos. */
    private void changeOften() {
        boolean removing = false;
        for (int i = 0; i < 14; i++) {
            removing = dice.below(5) == 0 ? !removing : removing;
            call(removing ? "removeFence" : "insertFence", removing ? fence() : dice.below(slow.gapCount() + 1));
        }
        for (int undos = dice.below(11); undos > 0; undos--) {
            call("undo");
            call("write");
        }
    }

    private void bringBytes(String text) {
        int before = fast.bufferLength();
        for (int at = 0; at < text.length(); at += 20) {
            int[] fours = new int[5];
            for (int i = 0; i < 20; i++) {
                fours[i / 4] = fours[i / 4] << 8 | (at + i < text.length() ? text.charAt(at + i) & 255 : 0);
            }
            call("append", fours);
        }
        call("truncate", before + text.length());
    }

    private int argument(String kind) {
        if (dice.below(20) == 0) {
            return WILD[dice.below(WILD.length)];
        }
        switch (kind) {
            case "model":
                return dice.below(20) == 0 ? -1 : dice.below(3);
            case "code":
                return code();
            case "instruction":
                return dice.below(slow.instructionCount() + 2) - 1;
            case "fence":
                return fence();
            case "gap":
                return dice.below(slow.gapCount() + 2) - 1;
            case "gaps":
                return dice.below((1 << slow.gapCount()) + 2) - 1;
            case "what":
                return dice.below(8) - 1;
            case "length":
                return dice.below(slow.bufferLength() + 2) - 1;
            case "byte":
                return dice.below(130) - 1;
            case "index":
                return dice.below(dice.below(2) == 0 ? 4 : 20) - 1;
            default:
                return dice.below(6) - 1;
        }
    }

    private int code() {
        int model = dice.below(3);
        int known = slow.outcome(model, dice.below(slow.outcomeCount(model)));
        return dice.below(4) != 0 ? known : known + dice.below(5) - 2 << 2 * dice.below(3);
    }

    /** A fence if there is one. */
    private int fence() {
        int first = dice.below(slow.instructionCount() + 1);
        for (int i = first; i < slow.instructionCount(); i++) {
            if (slow.instruction(i, 1) == Naive.FENCE) {
                return i;
            }
        }
        return first;
    }

    private void call(String name, int... arguments) {
        if (run.size() >= MOST_CALLS || !same) {
            return;
        }
        Object[] boxed = Arrays.stream(arguments).boxed().toArray();
        Object got = answer(FAST.get(name), fast, boxed);
        Object due = answer(SLOW.get(name), slow, boxed);
        run.add(name + Arrays.toString(arguments) + " = " + due);
        MADE.add(name);
        refused += due instanceof Class ? 1 : 0;
        same = got.equals(due);
        Check.equal(same ? name : String.join("\n", run) + "\nthe last call", got, due);
    }

    private static Object answer(Method method, Object tester, Object[] arguments) {
        try {
            return method.invoke(tester, arguments);
        } catch (InvocationTargetException e) {
            return e.getCause().getClass();
        } catch (IllegalAccessException e) {
            throw new IllegalStateException(e);
        }
    }
}
