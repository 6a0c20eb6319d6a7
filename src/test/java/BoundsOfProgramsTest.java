import java.util.List;

/**
 * A test for each sentence of the document's description that names a boundary of programs, models,
 * executions, outcomes, gaps, races, or changes. The sentence stands above its test.
 */
public final class BoundsOfProgramsTest {
    private static final String XY = "loc x 0;loc y 0;";
    private static final String XYZ = "loc x 0;loc y 0;loc z 0;";

    public static void main(String[] args) {
        used512Times();
        atMost3LocationsAnd4Threads();
        conditionMayBeMissing();
        registersAreZeroInitially();
        valuesAre0To3();
        numbersFollowTheText();
        swapReadsAndWritesAtOnce();
        instructionsOfAThread();
        instructionsOfAProgram();
        model0HasNoBuffers();
        buffersOfAnyLength();
        commitsOfModel1();
        commitsOfModel2();
        loadsFromTheOwnBuffer();
        swapsUseTheMemory();
        fencesAndSwapsWait();
        alwaysEmptyInModel0();
        statesAreDifferentInOnePart();
        finalStates();
        initialAndFinalStatesCount();
        manyStates();
        numbersOfSteps();
        executionsAreDifferent();
        executionsInOrder();
        digitsOfACode();
        outcomesAreDifferentAndAscending();
        gapsBetweenTwoInstructions();
        gapsAreNumbered();
        setsOfGapsAreMasks();
        fencesInGapsBeyondTheLimits();
        conflicts();
        races();
        latest8Changes();
        explanationIsRemoved();
        Check.end();
    }

    /** "An object is used for at most 512 calls after it has been made". */
    private static void used512Times() {
        LitmusTester tester = new LitmusTester();
        String text = XY + "thread;store x 1;load r0 y;thread;store y 1;load r0 x;  ";
        Check.equal("length", text.length(), 72);
        int calls = 0;
        for (int at = 0; at < 80; at += 20, calls++) {
            String part = (text + " ".repeat(8)).substring(at, at + 20);
            int[] fours = new int[5];
            for (int i = 0; i < 20; i++) {
                fours[i / 4] = fours[i / 4] << 8 | part.charAt(i);
            }
            Check.equal("append", tester.append(fours[0], fours[1], fours[2], fours[3], fours[4]), at + 20);
        }
        Check.equal("define", tester.define(), 4);
        calls++;
        for (int round = 0; calls + 5 <= 511; round++, calls += 5) {
            int model = round % 3;
            Check.equal("insertFence", tester.insertFence(1), 3);
            Check.equal("outcomeCount", tester.outcomeCount(model), model == 0 ? 3 : 4);
            Check.equal("explain", tester.explain(model, 69), model == 0 ? 5 : 7);
            Check.equal("removeFence", tester.removeFence(3), 4);
            Check.equal("repairingFences", tester.repairingFences(model), model == 0 ? 0 : 3);
        }
        for (; calls < 511; calls++) {
            Check.equal("instructionCount", tester.instructionCount(), 4);
        }
        Check.equal("the 512th call", tester.undo(), 7);
    }

    /** "A program has at most 3 locations, at most 4 threads, and possibly a condition." */
    private static void atMost3LocationsAnd4Threads() {
        String text = "";
        for (int locations = 0; locations <= 3; locations++) {
            for (int threads = 0; threads <= 4; threads++) {
                LitmusTester tester = Check.defined(text + "thread;".repeat(threads));
                Check.equal("locationCount", tester.locationCount(), locations);
                Check.equal("threadCount", tester.threadCount(), threads);
            }
            if (locations < 3) {
                text += "loc " + "abc".charAt(locations) + " " + locations + ";";
            }
        }
        LitmusTester tester = Check.defined(text);
        Check.equal("a 4th location", Check.define(tester, text + "loc d 0;"), -(8 * 24 + 5));
        Check.equal("a 5th thread", Check.define(tester, "thread;".repeat(5)), -(8 * 28 + 5));
    }

    /** "A program without a condition has one that every outcome fulfils." */
    private static void conditionMayBeMissing() {
        String text = XY + "thread;store x 1;load r0 y;thread;store y 1;load r0 x;";
        LitmusTester without = Check.defined(text);
        LitmusTester with = Check.defined(text + "exists 0:r0=3;");
        for (int model = 0; model < 3; model++) {
            Check.equal("matchCount", without.matchCount(model), without.outcomeCount(model));
            Check.equal("firstMatch", without.firstMatch(model), without.outcome(model, 0));
            Check.equal("matchesWith", without.matchesWith(model, 3), 3);
            Check.equal("fewestFences", without.fewestFences(model), -1);
            Check.equal("matchCount", with.matchCount(model), 0);
            Check.equal("firstMatch", with.firstMatch(model), -1);
            Check.equal("fewestFences", with.fewestFences(model), 0);
        }
        Check.equal("the condition is gone", Check.define(with, text), 4);
        Check.equal("matchCount", with.matchCount(0), 3);
    }

    /** "two registers, r0 and r1, which are 0 initially". */
    private static void registersAreZeroInitially() {
        LitmusTester tester = Check.defined("loc x 3;thread;load r1 x;thread;load r0 x;thread;");
        for (int model = 0; model < 3; model++) {
            // The digits 0 3, 3 0, 0 0, 3.
            Check.equal("outcomes", Check.outcomes(tester, model), List.of((3 * 16 + 12) * 64 + 3));
        }
        // After a program in which they were loaded they are 0 again.
        Check.define(tester, "loc x 3;thread;thread;thread;");
        Check.equal("outcomes", Check.outcomes(tester, 0), List.of(3));
    }

    /** "All values are 0 to 3." */
    private static void valuesAre0To3() {
        for (int value = 0; value <= 3; value++) {
            LitmusTester tester = Check.defined("loc x " + value + ";loc y 0;thread;store y " + value
                    + ";load r0 x;swap r1 y r0;exists x=" + value + " and y=" + value + " and 0:r0=" + value + ";");
            for (int model = 0; model < 3; model++) {
                Check.equal("outcomes", Check.outcomes(tester, model), List.of(value * 85));
                Check.equal("matchCount", tester.matchCount(model), 1);
                Check.equal("readValues of a load", tester.readValues(model, 1), 1 << value);
                Check.equal("readValues of a swap", tester.readValues(model, 2), 1 << value);
                Check.equal("finalValues", tester.finalValues(model, 1), 1 << value);
            }
            Check.equal("constant", tester.instruction(0, 4), value);
        }
        Check.equal("4", Check.define(new LitmusTester(), "loc x 4;"), -50);
    }

    /** "Instructions are numbered from 0: first those of thread 0, then those of thread 1, and so on." */
    private static void numbersFollowTheText() {
        LitmusTester tester = Check.defined("loc b 0;loc a 1;thread;thread;fence;store a 1;thread;thread;load r0 b;");
        int[] threads = {1, 1, 3};
        int[] kinds = {3, 0, 1};
        int[] locations = {-1, 1, 0};
        for (int i = 0; i < 3; i++) {
            Check.equal("thread of " + i, tester.instruction(i, 0), threads[i]);
            Check.equal("kind of " + i, tester.instruction(i, 1), kinds[i]);
            Check.equal("location of " + i, tester.instruction(i, 2), locations[i]);
        }
        Check.equal("b", Check.findLocation(tester, "b"), 0);
        Check.equal("a", Check.findLocation(tester, "a"), 1);
    }

    /** "2, swap: reads .. and writes .., in one indivisible step. If the value is that of a register, it is the value before the swap." */
    private static void swapReadsAndWritesAtOnce() {
        LitmusTester taken = Check.defined("loc x 0;" + "thread;swap r0 x 1;".repeat(4) + "exists not (0:r0=0 or 1:r0=0 or 2:r0=0 or 3:r0=0);");
        for (int model = 0; model < 3; model++) {
            Check.equal("one of four takes it", taken.outcomeCount(model), 4);
            Check.equal("one always takes it", taken.matchCount(model), 0);
            Check.equal("executions", taken.executionCount(model), 24L);
        }
        LitmusTester chain = Check.defined("loc x 1;loc y 2;thread;swap r0 x 3;swap r1 y r0;");
        Check.equal("the value read before", Check.outcomes(chain, 2), List.of(((1 * 4 + 2) * 4 + 3) * 4 + 1));
    }

    /** "A thread has at most 7 instructions, of which at most 4 are not fences." */
    private static void instructionsOfAThread() {
        String four = "store x 1;load r0 x;load r1 x;store x 2;";
        LitmusTester tester = Check.defined("loc x 0;thread;" + four + "fence;fence;fence;");
        Check.equal("7 instructions", tester.instructionCount(), 7);
        Check.equal("the last one", tester.instruction(6, 1), 3);
        Check.equal("executions", tester.executionCount(1), 4L);
        Check.equal("an 8th", Check.define(tester, "loc x 0;thread;" + four + "fence;fence;fence;fence;"), -(8 * (15 + 40 + 18) + 5));
        Check.equal("a 5th", Check.define(tester, "loc x 0;thread;" + four + "store x 3;"), -(8 * (15 + 40) + 5));
        // A thread with 7 instructions at each place runs to its end.
        for (int thread = 0; thread < 4; thread++) {
            String text = "loc x 0;" + "thread;".repeat(thread) + "thread;fence;fence;store x 1;fence;load r0 x;fence;store x 2;"
                    + "thread;".repeat(3 - thread);
            LitmusTester seven = Check.defined(text);
            for (int model = 0; model < 3; model++) {
                int code = 1 << 2 * (8 - 2 * thread) | 2;
                Check.equal("outcomes of " + text, Check.outcomes(seven, model), List.of(code));
                Check.equal("steps", seven.explain(model, code), model == 0 ? 7 : 9);
                Check.equal("the last step", seven.step(model == 0 ? 6 : 8), 10 * thread + (model == 0 ? 0 : 1));
            }
        }
    }

    /** "A program has at most 8 instructions that are not fences, and at most 10 instructions in all." */
    private static void instructionsOfAProgram() {
        String four = "thread;store x 1;fence;load r0 x;load r1 x;store x 2;";
        LitmusTester tester = Check.defined("loc x 0;" + four + four);
        Check.equal("10 instructions", tester.instructionCount(), 10);
        Check.equal("the last one", tester.instruction(9, 4), 2);
        Check.equal("the last thread", tester.instruction(9, 0), 1);
        Check.equal("steps", tester.explain(1, tester.outcome(1, 0)), 14);
        Check.equal("written last", tester.writtenBy(0, 3) + tester.writtenBy(0, 2) + tester.writtenBy(0, 1) + tester.writtenBy(0, 0),
                0 + 4 + 5 + 9);
        Check.equal("an 11th", Check.define(tester, "loc x 0;" + four + four + "thread;fence;"), -(8 * (8 + 106 + 7) + 5));
        Check.equal("a 9th", Check.define(tester, "loc x 0;" + (four + four).replace("fence;", "") + "thread;load r0 x;"),
                -(8 * (8 + 94 + 7) + 5));
        // The 10th instruction does what it says.
        String nine = "loc x 0;loc y 2;thread;fence;fence;fence;fence;thread;fence;fence;fence;fence;store x 1;";
        String[] tenths = {"store x 3;", "fence;", "load r1 y;", "swap r1 x 2;", "swap r1 y 3;"};
        // r1 of thread 1, x, and y; the others are 0.
        int[] codes = {3 * 4 + 2, 1 * 4 + 2, 2 * 16 + 1 * 4 + 2, 1 * 16 + 2 * 4 + 2, 2 * 16 + 1 * 4 + 3};
        for (int i = 0; i < tenths.length; i++) {
            LitmusTester tenth = Check.defined(nine + tenths[i]);
            for (int model = 0; model < 3; model++) {
                Check.equal(tenths[i], Check.outcomes(tenth, model), List.of(codes[i]));
            }
        }
        // As many steps as there can be: 8 stores with their commits and 2 fences.
        LitmusTester longest = Check.defined("loc x 0;thread;fence;store x 1;store x 2;store x 3;store x 1;thread;store x 0;store x 1;"
                + "store x 2;store x 3;fence;");
        Check.equal("steps", longest.explain(2, 3), 18);
        Check.equal("the last step", longest.step(17), 10);
        Check.equal("no more", longest.step(18), -1);
        Check.equal("the last of 8 writes", longest.writtenBy(0, 7), 8);
        Check.equal("no 9th write", longest.writtenBy(0, 8), -1);
    }

    /** "In model 0 .. there are no buffers: a store writes to the memory when it is executed." */
    private static void model0HasNoBuffers() {
        LitmusTester tester = Check.defined(XY + "thread;store x 1;store y 2;");
        Check.equal("states", tester.stateCount(0), 3);
        Check.equal("steps", tester.explain(0, 6), 2);
        Check.equal("steps", Check.steps(tester), List.of(0, 0));
        Check.equal("greatestBuffer", tester.greatestBuffer(0, 0), 0);
        LitmusTester seen = Check.defined("loc x 0;thread;store x 1;thread;load r0 x;");
        Check.equal("executionsWith", seen.executionsWith(0, 16 + 1), 1L);
        Check.equal("executionsWith", seen.executionsWith(0, 1), 1L);
        Check.equal("executionsWith", seen.executionsWith(1, 1), 2L);
    }

    /** "In models 1 and 2 each thread has a buffer of any length." */
    private static void buffersOfAnyLength() {
        String stores = "thread;store x 1;store y 1;store x 2;store y 2;";
        LitmusTester tester = Check.defined(XY + stores + stores);
        for (int thread = 0; thread < 2; thread++) {
            Check.equal("model 0", tester.greatestBuffer(0, thread), 0);
            Check.equal("model 1", tester.greatestBuffer(1, thread), 4);
            Check.equal("model 2", tester.greatestBuffer(2, thread), 4);
        }
        for (int size = 0; size <= 4; size++) {
            LitmusTester some = Check.defined("loc x 0;thread;" + "store x 1;".repeat(size));
            Check.equal("greatestBuffer", some.greatestBuffer(1, 0), size);
            // The buffer after i stores has 0 to i entries.
            Check.equal("states", some.stateCount(1), (size + 1) * (size + 2) / 2);
        }
    }

    /** "In model 1 only the first entry of a buffer can be committed". */
    private static void commitsOfModel1() {
        LitmusTester tester = Check.defined(XYZ + "thread;store z 1;store y 1;store x 1;");
        Check.equal("outcomes", Check.outcomes(tester, 1), List.of(16 + 4 + 1));
        // 3 stores and their commits in order: the Catalan number of 3.
        Check.equal("executions", tester.executionCount(1), 5L);
        Check.equal("explain", tester.explain(1, 21), 6);
        Check.equal("steps", Check.steps(tester), List.of(0, 0, 0, 3, 2, 1));
        Check.equal("model 2", tester.explain(2, 21), 6);
        Check.equal("steps", Check.steps(tester), List.of(0, 0, 0, 1, 2, 3));
        LitmusTester passed = Check.defined(XY + "thread;store x 1;store y 1;thread;load r0 y;load r1 x;exists 1:r0=1 and 1:r1=0;");
        Check.equal("model 1", passed.matchCount(1), 0);
        Check.equal("model 2", passed.matchCount(2), 1);
    }

    /** "in model 2 the first entry for each location can." */
    private static void commitsOfModel2() {
        LitmusTester same = Check.defined(XY + "thread;store x 1;store x 2;store x 3;");
        Check.equal("in order for one location", Check.outcomes(same, 2), List.of(3 * 4));
        Check.equal("executions", same.executionCount(2), 5L);
        LitmusTester mixed = Check.defined(XY + "thread;store x 1;store y 1;store x 2;thread;load r0 x;load r1 y;");
        // x=2 can be seen before y=1 only if both commits for x are made before the one for y.
        Check.equal("model 1", mixed.executionsWith(1, (2 * 4 + 0) * 16 + 8 + 1), 0L);
        Check.yes("model 2", mixed.hasOutcome(2, (2 * 4 + 0) * 16 + 8 + 1));
        Check.equal("explain", mixed.explain(2, (2 * 4 + 0) * 16 + 8 + 1), 8);
        Check.equal("steps", Check.steps(mixed), List.of(0, 0, 0, 1, 1, 10, 10, 2));
    }

    /** "A load reads the value of the last entry for its location in the buffer of its own thread, or, if there is none, the value in the memory." */
    private static void loadsFromTheOwnBuffer() {
        LitmusTester last = Check.defined(XY + "thread;store x 1;store y 3;store x 2;load r0 x;");
        for (int model = 0; model < 3; model++) {
            Check.equal("the last entry", last.readValues(model, 3), 4);
        }
        LitmusTester others = Check.defined("loc x 3;thread;store x 1;thread;load r0 x;load r1 x;");
        Check.equal("memory, before and after the commit", others.readValues(1, 1), 8 + 2);
        Check.yes("the buffer of the other thread is not read", others.hasOutcome(1, (3 * 4 + 3) * 4 + 1));
        LitmusTester elsewhere = Check.defined("loc x 0;loc y 2;thread;store x 1;load r0 y;load r1 x;thread;store x 3;");
        Check.equal("no entry for its location", elsewhere.readValues(1, 1), 4);
        Check.equal("its entry, or the memory after its commit", elsewhere.readValues(1, 2), 2 + 8);
        Check.equal("explain", elsewhere.explain(1, ((2 * 4 + 3) * 16) * 16 + 12 + 2), 6);
        Check.equal("steps", Check.steps(elsewhere), List.of(0, 0, 1, 10, 11, 0));
    }

    /** "A swap reads and writes the memory." */
    private static void swapsUseTheMemory() {
        LitmusTester tester = Check.defined("loc x 0;thread;swap r0 x 1;thread;store x 2;load r0 x;");
        // Digits: r0 r1 of thread 0, r0 r1 of thread 1, x. The swap does not see what waits in the other buffer.
        Check.yes("the commit before the swap", tester.hasOutcome(1, 2 * 256 + 2 * 16 + 1));
        Check.yes("the commit after the swap", tester.hasOutcome(1, 2 * 16 + 2));
        Check.equal("explain", tester.explain(1, 2 * 16 + 2), 4);
        Check.equal("steps", Check.steps(tester), List.of(0, 10, 10, 11));
        Check.equal("what it wrote is in the memory at once", tester.writtenBy(0, 0), 0);
        Check.equal("and then the commit", tester.writtenBy(0, 1), 1);
        Check.equal("greatestBuffer", tester.greatestBuffer(1, 0), 0);
    }

    /** "A fence and a swap can only be executed while the buffer of their thread is empty". */
    private static void fencesAndSwapsWait() {
        for (String waiting : new String[] {"fence", "swap r0 y 1"}) {
            LitmusTester own = Check.defined(XY + "thread;store x 1;" + waiting + ";");
            LitmusTester other = Check.defined(XY + "thread;store x 1;thread;" + waiting + ";");
            LitmusTester early = Check.defined(XY + "thread;" + waiting + ";store x 1;");
            for (int model = 1; model < 3; model++) {
                Check.equal("it waits for its own buffer", own.executionCount(model), 1L);
                Check.equal("greatestBuffer", own.greatestBuffer(model, 0), 1);
                Check.equal("it does not wait for another buffer", other.executionCount(model), 3L);
                Check.equal("it does not wait for later stores", early.executionCount(model), 1L);
                own.explain(model, own.outcome(model, 0));
                Check.equal("steps", Check.steps(own), List.of(0, 1, 0));
            }
        }
        LitmusTester two = Check.defined(XY + "thread;store x 1;store y 1;fence;");
        Check.equal("for both entries, in order", two.executionCount(1), 2L);
        Check.equal("for both entries, in any order", two.executionCount(2), 3L);
        // Stores and loads do not wait.
        LitmusTester none = Check.defined(XY + "thread;store x 1;load r0 y;store y 1;");
        Check.equal("greatestBuffer", none.greatestBuffer(1, 0), 2);
    }

    /** ".. (which is always so in model 0)." */
    private static void alwaysEmptyInModel0() {
        LitmusTester tester = Check.defined(XY + "thread;store x 1;fence;swap r0 y 1;thread;store y 2;fence;");
        Check.equal("executions", tester.executionCount(0), 10L);
        Check.equal("states", tester.stateCount(0), Check.defined(XY + "thread;store x 1;load r1 x;swap r0 y 1;thread;store y 2;fence;")
                .stateCount(0));
        Check.no("isFenceNeeded", tester.isFenceNeeded(0, 1));
        Check.no("isFenceNeeded", tester.isFenceNeeded(0, 4));
    }

    /** "A state consists of the next instruction of each thread, the registers, the memory and the buffers." */
    private static void statesAreDifferentInOnePart() {
        states("next instruction", "thread;fence;fence;", 3, 3, 3);
        states("next instructions", "thread;fence;thread;fence;", 4, 4, 4);
        // After both instructions only the register tells which of them was first.
        states("registers", "loc x 0;thread;store x 1;thread;load r0 x;", 5, 7, 7);
        // After both stores only the memory tells it.
        states("memory", "loc x 0;thread;store x 1;thread;store x 2;", 5, 10, 10);
        states("memory that stays the same", "loc x 0;thread;store x 0;thread;store x 0;", 4, 9, 9);
        states("buffers", "loc x 0;thread;store x 0;", 2, 3, 3);
        states("values in buffers", "loc x 0;loc y 0;thread;load r0 x;store y r0;thread;store x 1;", 8, 15, 15);
        states("order in buffers", XY + "thread;store x 0;store y 0;", 3, 6, 7);
    }

    private static void states(String what, String text, int... due) {
        LitmusTester tester = Check.defined(text);
        for (int model = 0; model < 3; model++) {
            Check.equal("states of model " + model + ": " + what, tester.stateCount(model), due[model]);
        }
    }

    /** "a final state, in which all threads have executed all their instructions and all buffers are empty." */
    private static void finalStates() {
        LitmusTester tester = Check.defined("loc x 0;thread;store x 1;thread;thread;thread;store x 2;");
        for (int model = 0; model < 3; model++) {
            Check.equal("outcomes", Check.outcomes(tester, model), List.of(1, 2));
            Check.equal("steps", tester.explain(model, 1), model == 0 ? 2 : 4);
        }
        Check.equal("no instruction", Check.outcomes(Check.defined("loc x 2;thread;thread;"), 1), List.of(2));
    }

    /** "The reachable states are those that occur in executions, the initial one and the final ones included." */
    private static void initialAndFinalStatesCount() {
        states("an execution without steps", "", 1, 1, 1);
        states("an execution without steps", "loc x 3;thread;thread;thread;thread;", 1, 1, 1);
        states("one step", "thread;fence;", 2, 2, 2);
        states("one step", "loc x 0;thread;load r0 x;", 2, 2, 2);
        states("one step, or two", "loc x 0;thread;store x 3;", 2, 3, 3);
    }

    /** The same with many of them: none is lost, none counts twice. */
    private static void manyStates() {
        // Nothing is ever changed, so that the states of the threads can be combined in all ways.
        states("4 threads", XY + "thread;store x 0;store y 0;".repeat(4), 3 * 3 * 3 * 3, 6 * 6 * 6 * 6, 7 * 7 * 7 * 7);
        states("2 threads", XYZ + "thread;store x 0;store x 0;store x 0;store x 0;".repeat(2), 5 * 5, 15 * 15, 15 * 15);
        states("2 threads", "thread;fence;fence;fence;fence;fence;fence;fence;thread;fence;fence;fence;", 8 * 4, 8 * 4, 8 * 4);
        states("4 threads", "loc x 0;" + "thread;load r0 x;load r1 x;".repeat(3) + "thread;load r0 x;fence;fence;load r1 x;",
                27 * 5, 27 * 5, 27 * 5);
    }

    /** "the execution of an instruction of thread t has the number 10 * t; the commit of an entry of thread t for location l has the number 10 * t + 1 + l." */
    private static void numbersOfSteps() {
        for (int thread = 0; thread < 4; thread++) {
            for (int location = 0; location < 3; location++) {
                LitmusTester tester = Check.defined(XYZ + "thread;".repeat(thread) + "thread;store " + "xyz".charAt(location) + " 1;"
                        + "thread;".repeat(3 - thread));
                int code = 1 << 2 * (2 - location);
                Check.equal("explain", tester.explain(0, code), 1);
                Check.equal("steps", Check.steps(tester), List.of(10 * thread));
                for (int model = 1; model < 3; model++) {
                    Check.equal("explain", tester.explain(model, code), 2);
                    Check.equal("steps", Check.steps(tester), List.of(10 * thread, 10 * thread + 1 + location));
                }
            }
        }
    }

    /** "Two executions are different if their sequences of step numbers are different." */
    private static void executionsAreDifferent() {
        LitmusTester none = new LitmusTester();
        LitmusTester same = Check.defined("loc x 0;thread;store x 0;thread;store x 0;");
        for (int model = 0; model < 3; model++) {
            Check.equal("one without steps", none.executionCount(model), 1L);
            Check.equal("nothing else is different", same.executionCount(model), model == 0 ? 2L : 6L);
            Check.equal("executionsWith", same.executionsWith(model, 0), model == 0 ? 2L : 6L);
        }
        LitmusTester many = Check.defined(XY + "thread;store x 1;store y 1;".repeat(4));
        Check.equal("more than an int holds", many.executionCount(2), 5108103000L);
        Check.equal("more than an int holds", many.executionsWith(2, 5), 5108103000L);
    }

    /** "An execution is before another one if its sequence of step numbers is lexicographically less." */
    private static void executionsInOrder() {
        LitmusTester tester = Check.defined("loc x 0;loc y 0;thread;fence;thread;store y 1;store x 1;thread;load r0 x;");
        // The digits of thread 2 are the 5th and the 6th, and x and y follow.
        Check.equal("read late", tester.explain(2, 1 * 64 + 5), 6);
        Check.equal("steps", Check.steps(tester), List.of(0, 10, 10, 11, 12, 20));
        Check.equal("read early", tester.explain(2, 5), 6);
        Check.equal("steps", Check.steps(tester), List.of(0, 10, 10, 12, 20, 11));
        Check.equal("read early", tester.explain(1, 5), 6);
        Check.equal("steps", Check.steps(tester), List.of(0, 10, 10, 12, 20, 11));
        Check.equal("read early", tester.explain(0, 5), 4);
        Check.equal("steps", Check.steps(tester), List.of(0, 10, 20, 10));
    }

    /** "digits to the base 4, the first one being the most significant one: r0 and r1 of thread 0, .. then the values of the locations in order." */
    private static void digitsOfACode() {
        Check.equal("no digit", Check.outcomes(new LitmusTester(), 2), List.of(0));
        Check.equal("one digit", Check.outcomes(Check.defined("loc x 3;"), 2), List.of(3));
        Check.equal("two digits", Check.outcomes(Check.defined("thread;"), 2), List.of(0));
        String threads = "thread;load r0 x;load r1 y;";
        Check.equal("11 digits", Check.outcomes(Check.defined("loc x 1;loc y 2;loc z 3;" + threads.repeat(4)), 1),
                List.of(((((1 * 4 + 2) * 16 + 6) * 16 + 6) * 16 + 6) * 64 + 16 + 8 + 3));
        Check.equal("the greatest code", Check.outcomes(Check.defined("loc x 3;loc y 3;loc z 3;" + threads.repeat(4)), 1),
                List.of((1 << 22) - 1));
        for (int digit = 0; digit < 11; digit++) {
            StringBuilder text = new StringBuilder("loc x 3;loc y 0;loc z 0;");
            for (int thread = 0; thread < 4; thread++) {
                text.append("thread;").append(digit / 2 == thread && digit < 8 ? "load r" + digit % 2 + " x;" : "");
            }
            text.append(digit > 8 ? "load r0 x;store " + "xyz".charAt(digit - 8) + " r0;" : "");
            int due = 3 << 4 | 3 << 2 * (10 - digit) | (digit > 8 ? 3 << 8 : 0);
            Check.equal("digit " + digit, Check.outcomes(Check.defined(text.toString()), 1), List.of(due));
        }
    }

    /** "The outcomes of a model are the different outcomes of its executions, in ascending order of their codes." */
    private static void outcomesAreDifferentAndAscending() {
        for (int model = 0; model < 3; model++) {
            LitmusTester tester = Check.defined("loc x 0;thread;store x 3;store x 1;thread;load r0 x;load r1 x;thread;load r0 x;load r1 x;"
                    + "thread;store x 2;");
            List<Integer> codes = Check.outcomes(tester, model);
            Check.yes("many", codes.size() > 40);
            long executions = 0;
            for (int index = 0; index < codes.size(); index++) {
                Check.yes("ascending", index == 0 || codes.get(index) > codes.get(index - 1));
                executions += tester.executionsWith(model, codes.get(index));
            }
            Check.equal("each execution has one", executions, tester.executionCount(model));
        }
        LitmusTester one = Check.defined("loc x 1;thread;store x 1;thread;store x 1;thread;load r0 x;");
        Check.equal("many executions, one outcome", one.outcomeCount(1), 1);
    }

    /** "A gap is a place between two adjacent instructions of a thread, neither of which is a fence." */
    private static void gapsBetweenTwoInstructions() {
        gaps("", 0);
        gaps("loc x 0;thread;", 0);
        gaps("loc x 0;thread;store x 1;", 0);
        gaps("loc x 0;thread;store x 1;thread;store x 1;thread;load r0 x;thread;load r0 x;", 0);
        gaps("loc x 0;thread;fence;store x 1;fence;", 0);
        gaps("loc x 0;thread;store x 1;fence;store x 1;", 0);
        gaps("loc x 0;thread;fence;fence;", 0);
        gaps("loc x 0;thread;store x 1;load r0 x;", 1);
        gaps("loc x 0;thread;fence;store x 1;load r0 x;fence;", 1);
        gaps("loc x 0;thread;store x 1;swap r0 x 1;load r1 x;", 2);
        gaps("loc x 0;" + "thread;store x 1;store x 1;".repeat(4), 4);
        gaps("loc x 0;" + "thread;store x 1;store x 1;store x 1;store x 1;".repeat(2), 6);
    }

    private static void gaps(String text, int due) {
        LitmusTester tester = Check.defined(text);
        Check.equal("gaps of " + text, tester.gapCount(), due);
        Check.equal("gapBefore of " + text, tester.gapBefore(due), -1);
        Check.equal("gapBefore of " + text, tester.gapBefore(due - 1) != -1, due > 0);
    }

    /** "Gaps are numbered from 0, in the order of the instructions before which they lie." */
    private static void gapsAreNumbered() {
        LitmusTester tester = Check.defined("loc x 0;thread;thread;store x 1;store x 1;fence;store x 1;store x 1;thread;fence;load r0 x;load r1 x;");
        int[] due = {1, 4, 7};
        for (int gap = 0; gap < due.length; gap++) {
            Check.equal("gapBefore", tester.gapBefore(gap), due[gap]);
        }
        Check.equal("gapCount", tester.gapCount(), 3);
    }

    /** "A set of gaps is a bit mask (bit g for gap g)." */
    private static void setsOfGapsAreMasks() {
        // Each of the six gaps is one that a fence must fill for its own outcome; the others are not enough.
        String all = "loc x 0;loc y 0;loc z 0;thread;store y 3;store x 1;store z 3;load r0 y;"
                + "thread;store x 2;store y 2;store z 1;load r0 x;";
        LitmusTester tester = Check.defined(all);
        int sequential = tester.outcomeCount(0);
        for (int set = 0; set < 64; set++) {
            Check.equal("set " + set, tester.matchesWith(2, set) == sequential, set == 63);
        }
        LitmusTester halves = Check.defined(XY + "thread;store x 1;load r0 y;thread;load r1 x;store y 1;load r0 x;exists 0:r0=0 and 1:r0=0;");
        boolean[] forbidden = {false, false, false, false, false, true, false, true};
        for (int set = 0; set < 8; set++) {
            Check.equal("set " + set, halves.matchesWith(1, set) == 0 || halves.matchesWith(1, set) < halves.matchesWith(1, 0), forbidden[set]);
        }
    }

    /** "(here a thread may have more than 7 instructions, and the program more than 10)." */
    private static void fencesInGapsBeyondTheLimits() {
        String forbidden = "exists 0:r0=0 and 1:r0=0;";
        LitmusTester thread = Check.defined(XY + "thread;fence;fence;fence;fence;fence;store x 1;load r0 y;thread;store y 1;load r0 x;" + forbidden);
        LitmusTester program = Check.defined(XY + "thread;fence;fence;fence;store x 1;load r0 y;thread;fence;fence;fence;store y 1;load r0 x;"
                + forbidden);
        for (LitmusTester tester : new LitmusTester[] {thread, program}) {
            for (int model = 1; model < 3; model++) {
                Check.equal("no fence", tester.matchesWith(model, 0), 1);
                Check.equal("one fence", tester.matchesWith(model, 1), 1);
                Check.equal("both fences", tester.matchesWith(model, 3), 0);
                Check.equal("fewestFences", tester.fewestFences(model), 3);
                Check.equal("repairingFences", tester.repairingFences(model), 3);
            }
            Check.equal("the program is as before", tester.instructionCount(), tester == thread ? 9 : 10);
        }
        Check.thrown("but no fence can be inserted", IllegalStateException.class, () -> thread.insertFence(0));
        Check.thrown("but no fence can be inserted", IllegalStateException.class, () -> program.insertFence(1));
    }

    /** "Two instructions of different threads conflict if they access the same location, at least one of them writes it, and not both of them are swaps." */
    private static void conflicts() {
        String[] instructions = {"store x 1", "load r0 x", "swap r0 x 1", "fence", "store y 1", "load r0 y", "swap r0 y 1"};
        for (int i = 0; i < instructions.length; i++) {
            for (int j = 0; j < instructions.length; j++) {
                boolean same = i != 3 && j != 3 && i / 4 == j / 4;
                int kind = i % 4;
                int otherKind = j % 4;
                boolean race = same && !(kind == 1 && otherKind == 1) && !(kind == 2 && otherKind == 2);
                LitmusTester apart = Check.defined(XY + "thread;" + instructions[i] + ";thread;" + instructions[j] + ";");
                String what = instructions[i] + " and " + instructions[j];
                Check.equal(what, apart.isRace(0, 1), race);
                Check.equal(what, apart.isRace(1, 0), race);
                Check.equal(what, apart.raceCount(), race ? 1 : 0);
                LitmusTester together = Check.defined(XY + "thread;" + instructions[i] + ";" + instructions[j].replace("r0", "r1") + ";");
                Check.no(what + " of one thread", together.isRace(0, 1));
                Check.equal(what + " of one thread", together.raceCount(), 0);
            }
        }
        LitmusTester three = Check.defined("loc x 0;thread;store x 1;thread;thread;thread;store x 1;");
        Check.yes("threads that are not adjacent", three.isRace(0, 1));
        Check.no("an instruction and itself", three.isRace(1, 1));
    }

    /** "They race if .. there is a reachable state of model 0 in which each of them is the next instruction of its thread." */
    private static void races() {
        LitmusTester tester = Check.defined("loc x 0;thread;fence;store x 1;fence;load r0 x;thread;swap r0 x 1;fence;load r1 x;fence;");
        // The first ones and the last ones too: what is before them can always be executed.
        boolean[][] due = new boolean[8][8];
        due[1][4] = true;
        due[1][6] = true;
        due[3][4] = true;
        for (int first = 0; first < 4; first++) {
            for (int second = 4; second < 8; second++) {
                Check.equal(first + " and " + second, tester.isRace(first, second), due[first][second]);
            }
        }
        Check.equal("raceCount", tester.raceCount(), 3);
        LitmusTester most = Check.defined("loc x 0;" + "thread;store x 1;store x 1;".repeat(4));
        Check.equal("all pairs of different threads", most.raceCount(), 24);
    }

    /** "insertFence() and removeFence() are changes of the program. The latest 8 changes can be undone." */
    private static void latest8Changes() {
        for (int changes = 0; changes <= 10; changes++) {
            LitmusTester tester = Check.defined("loc x 0;thread;store x 1;store x 2;");
            // The fence is there after every other change.
            for (int i = 1; i <= changes; i++) {
                Check.equal("a change", i % 2 == 1 ? tester.insertFence(0) : tester.removeFence(1), i % 2 == 1 ? 1 : 2);
            }
            int undone = Math.min(changes, 8);
            for (int left = undone - 1; left >= 0; left--) {
                Check.equal("undo of " + changes, tester.undo(), left);
                Check.equal("instructions", tester.instructionCount(), 2 + (changes - undone + left) % 2);
            }
            Check.equal("undo of none", tester.undo(), -1);
            String fence = (changes - undone) % 2 == 1 ? "fence;" : "";
            Check.equal("written", Check.written(tester), "loc x 0;thread;store x 1;" + fence + "store x 2;");
        }
    }

    /** "it is removed by every successful define(), by every change and by every undo() that undoes a change." */
    private static void explanationIsRemoved() {
        String text = XY + "thread;store x 1;load r0 y;thread;store y 1;load r0 x;";
        LitmusTester tester = Check.defined(text);
        tester.explain(1, 5);
        Check.equal("an undo of nothing keeps it", tester.undo(), -1);
        Check.equal("steps", Check.steps(tester), List.of(0, 0, 10, 10, 1, 12));
        Check.yes("a failed define() keeps it", Check.define(tester, text + "#") < 0);
        Check.equal("steps", Check.steps(tester), List.of(0, 0, 10, 10, 1, 12));
        Check.thrown("a failed change keeps it", IndexOutOfBoundsException.class, () -> tester.insertFence(2));
        Check.thrown("a failed change keeps it", IndexOutOfBoundsException.class, () -> tester.removeFence(4));
        Check.equal("a failed explain() keeps it", tester.explain(0, 5), -1);
        Check.equal("steps", Check.steps(tester), List.of(0, 0, 10, 10, 1, 12));
        tester.insertFence(0);
        Check.equal("insertFence removes it", tester.step(0), -1);
        tester.explain(1, 69);
        Check.equal("step", tester.step(0), 0);
        tester.undo();
        Check.equal("an undo of insertFence removes it", tester.step(0), -1);
        tester.insertFence(0);
        tester.explain(1, 69);
        tester.removeFence(1);
        Check.equal("removeFence removes it", tester.step(0), -1);
        tester.explain(1, 69);
        tester.undo();
        Check.equal("an undo of removeFence removes it", tester.step(0), -1);
        tester.explain(1, 69);
        Check.define(tester, text);
        Check.equal("define of the same text removes it", tester.step(0), -1);
        Check.equal("writtenBy", tester.writtenBy(0, 0), -1);
        Check.thrown("readsFrom", java.util.NoSuchElementException.class, () -> tester.readsFrom(1));
    }
}
