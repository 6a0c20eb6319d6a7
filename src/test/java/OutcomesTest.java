import java.util.List;
import java.util.NoSuchElementException;

/** Promises 13 to 27: what comes out of programs that are well known, and races. */
public final class OutcomesTest {
    private static final String BUFFERING = "loc x 0;loc y 0;thread;store x 1;load r0 y;thread;store y 1;load r0 x;";
    private static final int[] NO_MODELS = {-1, 3, 4, Integer.MIN_VALUE, Integer.MAX_VALUE};

    public static void main(String[] args) {
        knownPrograms();
        outcomesInOrder();
        noSuchModel();
        orderOfExceptions();
        hasOutcome();
        extraOutcomes();
        fulfils();
        precedence();
        matches();
        states();
        executions();
        readValues();
        finalValues();
        greatestBuffer();
        swapsAndRegisters();
        races();
        Check.end();
    }

    /** Whether the condition can be fulfilled in the models 0, 1 and 2. */
    private static void allowed(String text, boolean... due) {
        LitmusTester x = Check.defined(text);
        for (int model = 0; model < 3; model++) {
            Check.equal(text + " in model " + model, x.matchCount(model) > 0, due[model]);
            Check.equal(text + " in model " + model, x.firstMatch(model) != -1, due[model]);
        }
    }

    private static void knownPrograms() {
        String xy = "loc x 0;loc y 0;";
        allowed(BUFFERING + "exists 0:r0=0 and 1:r0=0;", false, true, true);
        allowed(xy + "thread;store x 1;fence;load r0 y;thread;store y 1;fence;load r0 x;exists 0:r0=0 and 1:r0=0;",
                false, false, false);
        allowed(xy + "thread;store x 1;swap r1 y 2;load r0 y;thread;store y 1;swap r1 x 2;exists 0:r1=0 and 1:r1=0;",
                false, false, false);
        allowed(xy + "thread;store x 1;store y 1;thread;load r0 y;load r1 x;exists 1:r0=1 and 1:r1=0;", false, false, true);
        allowed(xy + "thread;load r0 x;store y 1;thread;load r0 y;store x 1;exists 0:r0=1 and 1:r0=1;", false, false, false);
        allowed(xy + "thread;store x 1;store y 2;thread;store y 1;store x 2;exists x=1 and y=1;", false, false, true);
        allowed(xy + "thread;store x 1;store y 1;thread;store y 2;load r0 x;exists y=2 and 1:r0=0;", false, true, true);
        allowed(xy + "thread;store x 2;store y 1;thread;load r0 y;store x 1;exists 1:r0=1 and x=2;", false, false, true);
        allowed("loc x 0;thread;store x 1;thread;load r0 x;load r1 x;exists 1:r0=1 and 1:r1=0;", false, false, false);
        allowed("loc x 0;thread;store x 1;store x 2;thread;load r0 x;load r1 x;exists 1:r0=2 and 1:r1=1;",
                false, false, false);
        allowed(xy + "thread;store x 1;thread;store y 1;thread;load r0 x;load r1 y;thread;load r0 y;load r1 x;"
                + "exists 2:r0=1 and 2:r1=0 and 3:r0=1 and 3:r1=0;", false, false, false);
        allowed(xy + "thread;store x 1;load r0 x;load r1 y;thread;store y 1;load r0 y;load r1 x;"
                + "exists 0:r0=1 and 0:r1=0 and 1:r0=1 and 1:r1=0;", false, true, true);
    }

    private static void outcomesInOrder() {
        LitmusTester x = Check.defined(BUFFERING);
        Check.equal("model 0", Check.outcomes(x, 0), List.of(69, 1029, 1093));
        Check.equal("model 1", Check.outcomes(x, 1), List.of(5, 69, 1029, 1093));
        Check.equal("model 2", Check.outcomes(x, 2), List.of(5, 69, 1029, 1093));
        for (int index : new int[] {-1, 3, 16, 64, Integer.MIN_VALUE, Integer.MAX_VALUE}) {
            Check.equal("outcome " + index, x.outcome(0, index), -1);
        }
        Check.equal("the initial values", Check.outcomes(Check.defined("loc x 3;loc y 1;thread;"), 1), List.of(13));
        Check.equal("the greatest code", Check.outcomes(Check.defined("loc x 3;loc y 3;loc z 3;"
                + "thread;load r0 x;load r1 x;thread;load r0 x;load r1 x;thread;load r0 x;load r1 x;thread;load r0 x;"
                + "load r1 x;"), 2), List.of(4194303));
    }

    private static void noSuchModel() {
        LitmusTester x = Check.defined(BUFFERING);
        for (int model : NO_MODELS) {
            Class<IllegalArgumentException> due = IllegalArgumentException.class;
            Check.thrown("outcomeCount " + model, due, () -> x.outcomeCount(model));
            Check.thrown("outcome " + model, due, () -> x.outcome(model, 0));
            Check.thrown("hasOutcome " + model, due, () -> x.hasOutcome(model, 5));
            Check.thrown("extraOutcomes " + model, due, () -> x.extraOutcomes(model, 0));
            Check.thrown("extraOutcomes " + model, due, () -> x.extraOutcomes(0, model));
            Check.thrown("matchCount " + model, due, () -> x.matchCount(model));
            Check.thrown("firstMatch " + model, due, () -> x.firstMatch(model));
            Check.thrown("stateCount " + model, due, () -> x.stateCount(model));
            Check.thrown("executionCount " + model, due, () -> x.executionCount(model));
            Check.thrown("executionsWith " + model, due, () -> x.executionsWith(model, 5));
            Check.thrown("readValues " + model, due, () -> x.readValues(model, 1));
            Check.thrown("finalValues " + model, due, () -> x.finalValues(model, 0));
            Check.thrown("greatestBuffer " + model, due, () -> x.greatestBuffer(model, 0));
            Check.thrown("matchesWith " + model, due, () -> x.matchesWith(model, 0));
            Check.thrown("fewestFences " + model, due, () -> x.fewestFences(model));
            Check.thrown("repairingFences " + model, due, () -> x.repairingFences(model));
            Check.thrown("isFenceNeeded " + model, due, () -> x.isFenceNeeded(model, 0));
            Check.thrown("explain " + model, due, () -> x.explain(model, 5));
        }
    }

    private static void orderOfExceptions() {
        LitmusTester x = Check.defined(BUFFERING);
        for (int wrong : new int[] {-1, 4, 10, Integer.MIN_VALUE, Integer.MAX_VALUE}) {
            Check.thrown("readValues", IllegalArgumentException.class, () -> x.readValues(3, wrong));
            Check.thrown("finalValues", IllegalArgumentException.class, () -> x.finalValues(3, wrong));
            Check.thrown("greatestBuffer", IllegalArgumentException.class, () -> x.greatestBuffer(3, wrong));
            Check.thrown("isFenceNeeded", IllegalArgumentException.class, () -> x.isFenceNeeded(3, wrong));
            Check.thrown("readValues", IndexOutOfBoundsException.class, () -> x.readValues(0, wrong));
            Check.thrown("finalValues", IndexOutOfBoundsException.class, () -> x.finalValues(0, wrong));
            Check.thrown("greatestBuffer", IndexOutOfBoundsException.class, () -> x.greatestBuffer(0, wrong));
            Check.thrown("isFenceNeeded", IndexOutOfBoundsException.class, () -> x.isFenceNeeded(0, wrong));
        }
        Check.thrown("isFenceNeeded", IllegalArgumentException.class, () -> x.isFenceNeeded(3, 0));
        Check.thrown("readValues", IllegalArgumentException.class, () -> x.readValues(3, 0));
    }

    private static void hasOutcome() {
        LitmusTester x = Check.defined(BUFFERING);
        for (int code : new int[] {-1, 0, 4, 6, 70, 4096 + 5, Integer.MIN_VALUE, Integer.MAX_VALUE}) {
            Check.no("hasOutcome " + code, x.hasOutcome(1, code));
            Check.equal("executionsWith " + code, x.executionsWith(1, code), 0L);
        }
        Check.yes("hasOutcome", x.hasOutcome(1, 5));
        Check.no("hasOutcome", x.hasOutcome(0, 5));
        Check.yes("hasOutcome", x.hasOutcome(0, 1093));
    }

    private static void extraOutcomes() {
        LitmusTester x = Check.defined("loc x 0;loc y 0;thread;store x 1;store y 1;load r0 y;thread;load r0 y;load r1 x;");
        Check.equal("of 2 and 1", x.extraOutcomes(2, 1), 1);
        Check.equal("of 1 and 2", x.extraOutcomes(1, 2), 0);
        Check.equal("of 1 and 0", x.extraOutcomes(1, 0), 0);
        Check.equal("of 2 and 2", x.extraOutcomes(2, 2), 0);
        Check.equal("of 2 and 0", x.extraOutcomes(2, 0), 1);
    }

    private static void fulfils() {
        LitmusTester x = Check.defined("loc x 0;loc y 0;thread;load r1 x;exists 0:r1=2 and x<1 and y=3;");
        Check.yes("fulfils", x.fulfils(2 * 16 + 3));
        Check.yes("a register that is no target", x.fulfils(3 * 64 + 2 * 16 + 3));
        Check.no("another register", x.fulfils(16 + 3));
        Check.no("another x", x.fulfils(2 * 16 + 4 + 3));
        Check.no("another y", x.fulfils(2 * 16 + 2));
        Check.no("too many digits", x.fulfils(256 + 2 * 16 + 3));
        Check.no("negative", x.fulfils(-1));
        LitmusTester y = Check.defined("loc x 0;thread;");
        Check.yes("without a condition", y.fulfils(63));
        Check.no("one digit more", y.fulfils(64));
        Check.no("the greatest int", y.fulfils(Integer.MAX_VALUE));
        Check.no("the least int", y.fulfils(Integer.MIN_VALUE));
        LitmusTester z = Check.defined("loc x 0;loc y 0;loc z 0;thread;thread;thread;thread;exists not z=1;");
        Check.yes("11 digits", z.fulfils(4194303));
        Check.no("12 digits", z.fulfils(4194304));
    }

    private static void holds(String condition, String codes) {
        LitmusTester x = Check.defined("loc x 0;loc y 0;loc z 0;exists " + condition + ";");
        StringBuilder found = new StringBuilder();
        for (int bits = 0; bits < 8; bits++) {
            found.append(x.fulfils((bits >> 2) * 16 + (bits >> 1 & 1) * 4 + (bits & 1)) ? 1 : 0);
        }
        Check.equal(condition, found.toString(), codes);
    }

    private static void precedence() {
        holds("x=1", "00001111");
        holds("x<1", "11110000");
        holds("x<0", "00000000");
        holds("x=1 or y=1 and z=1", "00011111");
        holds("(x=1 or y=1) and z=1", "00010101");
        holds("x=1 and y=1 or z=1", "01010111");
        holds("x=1 and (y=1 or z=1)", "00000111");
        holds("not x=1 and y=1", "00110000");
        holds("not (x=1 and y=1)", "11111100");
        holds("not x=1 or y=1", "11110011");
        holds("not not z=1", "01010101");
        holds("x=1 or y=1 or z=1", "01111111");
        holds("x=1 and y=1 and z=1", "00000001");
        holds("not x=1 and not y=1 or not z=1 and y=1", "11100010");
    }

    private static void matches() {
        LitmusTester x = Check.defined(BUFFERING + "exists 0:r0=0 or 1:r0=0;");
        Check.equal("matchCount", x.matchCount(0), 2);
        Check.equal("matchCount", x.matchCount(1), 3);
        Check.equal("firstMatch", x.firstMatch(0), 69);
        Check.equal("firstMatch", x.firstMatch(1), 5);
        LitmusTester y = Check.defined(BUFFERING + "exists x=0;");
        Check.equal("matchCount", y.matchCount(2), 0);
        Check.equal("firstMatch", y.firstMatch(2), -1);
        LitmusTester z = Check.defined(BUFFERING);
        Check.equal("without a condition", z.matchCount(1), 4);
        Check.equal("without a condition", z.firstMatch(1), 5);
    }

    private static void states(String text, int... due) {
        LitmusTester x = Check.defined(text);
        for (int model = 0; model < 3; model++) {
            Check.equal("states of " + text + " in model " + model, x.stateCount(model), due[model]);
        }
    }

    private static void states() {
        states("thread;fence;", 2, 2, 2);
        states("loc x 0;thread;store x 1;", 2, 3, 3);
        // Nothing of the store is seen in the memory, but the buffer is another one.
        states("loc x 0;thread;store x 0;", 2, 3, 3);
        states("loc x 0;loc y 0;thread;store x 1;store y 1;", 3, 6, 7);
        states("loc x 0;thread;store x 1;store x 2;", 3, 6, 6);
        states("loc x 0;loc y 0;thread;store x 1;fence;store y 1;", 4, 6, 6);
        states("loc x 0;thread;store x 1;swap r0 x 2;", 3, 4, 4);
    }

    private static void executions() {
        LitmusTester x = Check.defined("loc x 0;loc y 0;thread;store x 1;store y 1;thread;store x 1;store y 1;"
                + "thread;store x 1;store y 1;thread;store x 1;store y 1;");
        // 16! / 4!^4 orders of the threads' steps, and in each thread 2 or 3 orders of its own ones.
        Check.equal("model 0", x.executionCount(0), 2520L);
        Check.equal("model 1", x.executionCount(1), 63063000L * 16);
        Check.equal("model 2", x.executionCount(2), 63063000L * 81);
        Check.equal("executionsWith", x.executionsWith(2, 5), 63063000L * 81);
        LitmusTester y = Check.defined(BUFFERING);
        Check.equal("executionsWith", y.executionsWith(0, 69), 1L);
        Check.equal("executionsWith", y.executionsWith(0, 1029), 1L);
        Check.equal("executionsWith", y.executionsWith(0, 1093), 4L);
        Check.equal("executionsWith", y.executionsWith(0, 5), 0L);
        Check.equal("executionsWith", y.executionsWith(1, 5), 18L);
        LitmusTester z = Check.defined("loc x 0;thread;store x 1;fence;thread;fence;");
        Check.equal("a fence waits", z.executionCount(1), 4L);
        Check.equal("a fence waits", z.executionCount(0), 3L);
    }

    private static void readValues() {
        LitmusTester x = Check.defined("loc x 0;loc y 2;thread;store x 1;load r0 x;load r1 y;thread;store x 3;swap r0 x 2;fence;");
        Check.equal("its own store or a later one", x.readValues(0, 1), 2 + 4 + 8);
        Check.equal("its own store or a later one", x.readValues(1, 1), 2 + 4 + 8);
        Check.equal("never written", x.readValues(2, 2), 4);
        Check.equal("a swap", x.readValues(0, 4), 2 + 8);
        for (int instruction : new int[] {0, 3, 5}) {
            Check.thrown("readValues", NoSuchElementException.class, () -> x.readValues(0, instruction));
        }
        LitmusTester y = Check.defined(BUFFERING);
        Check.equal("readValues", y.readValues(0, 1), 3);
    }

    private static void finalValues() {
        LitmusTester x = Check.defined("loc x 0;loc y 0;loc z 3;thread;store x 1;store y 2;thread;store y 1;store x 2;");
        Check.equal("x", x.finalValues(0, 0), 6);
        Check.equal("y", x.finalValues(2, 1), 6);
        Check.equal("z", x.finalValues(1, 2), 8);
        Check.thrown("no location", IndexOutOfBoundsException.class, () -> x.finalValues(0, 3));
        Check.thrown("no location", IndexOutOfBoundsException.class, () -> x.finalValues(0, -1));
    }

    private static void greatestBuffer() {
        LitmusTester x = Check.defined("loc x 0;loc y 0;thread;store x 1;store y 1;store x 2;store y 3;"
                + "thread;store x 1;fence;store x 2;thread;swap r0 x 1;store x 1;thread;fence;");
        int[] due = {4, 1, 1, 0};
        for (int thread = 0; thread < 4; thread++) {
            Check.equal("greatestBuffer", x.greatestBuffer(0, thread), 0);
            Check.equal("greatestBuffer", x.greatestBuffer(1, thread), due[thread]);
            Check.equal("greatestBuffer", x.greatestBuffer(2, thread), due[thread]);
        }
        Check.thrown("no thread", IndexOutOfBoundsException.class, () -> x.greatestBuffer(1, 4));
        Check.thrown("no thread", IndexOutOfBoundsException.class, () -> x.greatestBuffer(1, -1));
        LitmusTester y = Check.defined("loc x 0;thread;store x 1;store x 2;swap r0 x 3;store x 1;");
        Check.equal("a swap empties it", y.greatestBuffer(2, 0), 2);
    }

    private static void swapsAndRegisters() {
        // The second swap writes what the first one read, and not what it reads itself.
        LitmusTester x = Check.defined("loc x 1;loc y 2;thread;swap r0 x 3;swap r1 y r0;store x r1;");
        Check.equal("chain", Check.outcomes(x, 1), List.of(((1 * 4 + 2) * 4 + 2) * 4 + 1));
        LitmusTester y = Check.defined("loc x 0;thread;swap r0 x 1;thread;swap r0 x 1;exists 0:r0=0 and 1:r0=0;");
        for (int model = 0; model < 3; model++) {
            Check.equal("only one takes the lock", y.matchCount(model), 0);
            Check.equal("either one takes it", y.outcomeCount(model), 2);
        }
    }

    private static void races() {
        LitmusTester x = Check.defined("loc x 0;loc y 0;thread;store x 1;load r0 x;swap r1 x 2;fence;store y 1;"
                + "thread;load r0 x;swap r1 x 3;store y 2;");
        // Instructions 0 to 4 are those of thread 0, 5 to 7 those of thread 1.
        String[] due = {"5 6", "6", "5", "", "7"};
        for (int first = 0; first < 5; first++) {
            for (int second = 0; second < 8; second++) {
                boolean race = second >= 5 && due[first].contains("" + second);
                Check.equal("isRace " + first + " " + second, x.isRace(first, second), race);
                Check.equal("isRace " + second + " " + first, x.isRace(second, first), race);
            }
        }
        Check.equal("raceCount", x.raceCount(), 5);
        for (int wrong : new int[] {-1, 8, 10, Integer.MIN_VALUE, Integer.MAX_VALUE}) {
            Check.thrown("isRace", IndexOutOfBoundsException.class, () -> x.isRace(wrong, 0));
            Check.thrown("isRace", IndexOutOfBoundsException.class, () -> x.isRace(0, wrong));
        }
        LitmusTester y = Check.defined("loc x 0;thread;fence;load r0 x;thread;load r0 x;fence;");
        Check.equal("loads and fences", y.raceCount(), 0);
    }
}
