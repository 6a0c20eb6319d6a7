import java.util.List;
import java.util.NoSuchElementException;

/**
 * For each promise that names a boundary, a test of its own: the least and the greatest argument, the one
 * before and the one behind them, what is empty, what is full, and calls that are refused.
 */
public final class BoundsOfCallsTest {
    private static final String XY = "loc x 0;loc y 0;";
    private static final String BUFFERING = XY + "thread;store x 1;load r0 y;thread;store y 1;load r0 x;";
    private static final String BOTH_ZERO = "exists 0:r0=0 and 1:r0=0;";
    private static final String FENCED = XY + "thread;store x 1;fence;load r0 y;thread;store y 1;load r0 x;";
    private static final int LEAST = Integer.MIN_VALUE;
    private static final int GREATEST = Integer.MAX_VALUE;
    private static final int[] NO_MODELS = {-1, 3, 4, 256, -256, LEAST, GREATEST};
    private static final Class<IllegalArgumentException> ARGUMENT = IllegalArgumentException.class;
    private static final Class<IndexOutOfBoundsException> BOUNDS = IndexOutOfBoundsException.class;
    private static final Class<NoSuchElementException> ELEMENT = NoSuchElementException.class;
    private static final Class<IllegalStateException> STATE = IllegalStateException.class;

    public static void main(String[] args) {
        newObject();
        append();
        appendMostSignificantFirst();
        truncate();
        bufferLength();
        define();
        defineReplaces();
        defineWithAnError();
        counts();
        instruction();
        findLocation();
        write();
        outputByte();
        outcomeCount();
        outcome();
        hasOutcome();
        extraOutcomes();
        fulfils();
        matches();
        stateCount();
        executions();
        readValues();
        finalValues();
        greatestBuffer();
        isRace();
        raceCount();
        gaps();
        matchesWith();
        fewestFences();
        repairingFences();
        isFenceNeeded();
        insertFence();
        insertFenceIntoAFullThread();
        insertFenceIntoAFullProgram();
        removeFence();
        undo();
        undoAtTheEndsOfThreads();
        answersFollowChanges();
        explain();
        step();
        readsFrom();
        writtenBy();
        firstExceptionOfSeveral();
        callsThatThrowChangeNothing();
        Check.end();
    }

    /** "Creates a tester with a program without locations, threads and condition. The input buffer and the output are empty. There is no explanation." */
    private static void newObject() {
        LitmusTester x = new LitmusTester();
        Check.equal("locationCount", x.locationCount(), 0);
        Check.equal("threadCount", x.threadCount(), 0);
        Check.equal("instructionCount", x.instructionCount(), 0);
        Check.yes("no condition", x.fulfils(0));
        Check.equal("bufferLength", x.bufferLength(), 0);
        Check.thrown("output", ELEMENT, () -> x.outputByte(0));
        Check.equal("explanation", x.step(0), -1);
        Check.equal("undo", x.undo(), -1);
        Check.equal("write", x.write(), 0);
        Check.equal("gapCount", x.gapCount(), 0);
        Check.equal("raceCount", x.raceCount(), 0);
        for (int model = 0; model < 3; model++) {
            Check.equal("outcomes", Check.outcomes(x, model), List.of(0));
            Check.equal("matchCount", x.matchCount(model), 1);
            Check.equal("firstMatch", x.firstMatch(model), 0);
            Check.equal("executionCount", x.executionCount(model), 1L);
            Check.equal("matchesWith", x.matchesWith(model, 0), 1);
            Check.equal("fewestFences", x.fewestFences(model), -1);
            Check.equal("repairingFences", x.repairingFences(model), 0);
        }
        Check.equal("define", x.define(), 0);
    }

    /** "Returns the new length of the buffer; NONE, and the buffer is unchanged, if it would exceed 600 bytes." */
    private static void append() {
        LitmusTester x = new LitmusTester();
        for (int length = 20; length <= 600; length += 20) {
            Check.equal("append", x.append(0x20202020, 0x20202020, 0x20202020, 0x20202020, 0x20202020), length);
        }
        for (int length = 600; length > 580; length--) {
            Check.yes("truncate", x.truncate(length));
            Check.equal("append beyond 600", x.append(-1, -1, -1, -1, -1), -1);
            Check.equal("bufferLength", x.bufferLength(), length);
        }
        Check.yes("truncate", x.truncate(580));
        Check.equal("append up to 600", x.append(0x20202020, 0x20202020, 0x20202020, 0x20202020, 0x2020203b), 600);
        Check.equal("nothing of what was refused stands there", x.define(), -(8 * 599 + 1));
        Check.equal("append to an empty buffer", x.append(0, 0, 0, 0, 0), 20);
    }

    /** "Appends twenty bytes to the input buffer: the four bytes of each argument, most significant byte first." */
    private static void appendMostSignificantFirst() {
        String text = "loc bcdef 1;thread; ";
        for (int wrong = 0; wrong < 20; wrong++) {
            int[] fours = new int[5];
            for (int i = 0; i < 20; i++) {
                fours[i / 4] |= (i == wrong ? 0x80 : text.charAt(i)) << 8 * (3 - i % 4);
            }
            LitmusTester x = new LitmusTester();
            Check.equal("append", x.append(fours[0], fours[1], fours[2], fours[3], fours[4]), 20);
            // A name or a word that is broken off ends before the wrong byte; otherwise this byte is the error.
            int offset = wrong < 3 ? 0 : wrong > 12 && wrong < 18 ? 12 : wrong;
            Check.equal("the byte at " + wrong, x.define(), -(8 * (wrong == 0 || wrong == 12 ? wrong : offset) + 1));
        }
        LitmusTester x = new LitmusTester();
        Check.equal("append", x.append(GREATEST, LEAST, -1, 0, 1), 20);
        Check.equal("append", x.append(1, 2, 3, 4, 5), 40);
        Check.equal("a byte of 127", x.define(), -1);
    }

    /** "Returns true; false, and the buffer is unchanged, if length is negative or greater than the current length." */
    private static void truncate() {
        LitmusTester x = new LitmusTester();
        Check.yes("0 of 0", x.truncate(0));
        for (int length : new int[] {1, -1, 600, LEAST, GREATEST}) {
            Check.no(length + " of 0", x.truncate(length));
            Check.equal("bufferLength", x.bufferLength(), 0);
        }
        Check.put(x, "loc x 1;thread;");
        for (int length : new int[] {16, 20, 600, 601, -1, -15, LEAST, GREATEST}) {
            Check.no(length + " of 15", x.truncate(length));
            Check.equal("bufferLength", x.bufferLength(), 15);
        }
        Check.yes("15 of 15", x.truncate(15));
        Check.equal("bufferLength", x.bufferLength(), 15);
        Check.yes("14 of 15", x.truncate(14));
        Check.no("15 of 14", x.truncate(15));
        Check.yes("8 of 14", x.truncate(8));
        Check.equal("define", x.define(), 0);
        Check.equal("what is left", x.locationCount() * 10 + x.threadCount(), 10);
        Check.put(x, "loc y 1;");
        Check.yes("0 of 8", x.truncate(0));
        Check.equal("bufferLength", x.bufferLength(), 0);
    }

    /** "Returns the current length of the input buffer." */
    private static void bufferLength() {
        LitmusTester x = new LitmusTester();
        Check.equal("empty", x.bufferLength(), 0);
        Check.put(x, " ".repeat(599));
        Check.equal("nearly full", x.bufferLength(), 599);
        Check.yes("truncate", x.truncate(580));
        x.append(0, 0, 0, 0, 0);
        Check.equal("full", x.bufferLength(), 600);
        x.define();
        Check.equal("read", x.bufferLength(), 0);
    }

    /** "which replaces the current one. No change can be undone then. Returns the number of instructions". */
    private static void define() {
        LitmusTester x = Check.defined(BUFFERING + BOTH_ZERO);
        for (int changes = 0; changes < 9; changes++) {
            if (changes % 2 == 0) {
                x.insertFence(0);
            } else {
                x.removeFence(1);
            }
        }
        x.explain(1, 69);
        Check.equal("no instruction", x.define(), 0);
        Check.equal("undo", x.undo(), -1);
        Check.equal("locations", x.locationCount(), 0);
        Check.equal("threads", x.threadCount(), 0);
        Check.equal("write", x.write(), 0);
        Check.yes("no condition", x.fulfils(0));
        Check.equal("no explanation", x.step(0), -1);
        Check.equal("outcomes", Check.outcomes(x, 1), List.of(0));
        Check.equal("10 instructions", Check.define(x, "thread;fence;fence;fence;fence;fence;".repeat(2)), 10);
        Check.equal("1 instruction", Check.define(x, "thread;fence;"), 1);
        // Nothing of the programs before is left in what is found.
        Check.equal("another program", Check.define(x, "loc x 3;loc y 2;thread;load r0 y;store x r0;"), 2);
        Check.equal("outcomes", Check.outcomes(x, 1), List.of(2 * 64 + 8 + 2));
        Check.equal("a smaller one", Check.define(x, "loc a 1;thread;load r0 a;fence;load r1 a;"), 3);
        Check.equal("outcomes", Check.outcomes(x, 1), List.of(16 + 4 + 1));
        Check.equal("executions", x.executionCount(1), 1L);
        Check.equal("a larger one again", Check.define(x, BUFFERING), 4);
        Check.equal("outcomes", Check.outcomes(x, 1), List.of(5, 69, 1029, 1093));
        Check.equal("the one without stores again", Check.define(x, "loc a 1;thread;load r0 a;fence;load r1 a;"), 3);
        Check.equal("states", x.stateCount(1), 4);
    }

    /** "which replaces the current one": nothing that was found out about a former program is left. */
    private static void defineReplaces() {
        String[] texts = {"", "loc x 3;", BUFFERING + BOTH_ZERO,
            "loc x 1;thread;store x 1;store x 2;store x 3;store x 0;exists x=0;",
            "loc x 0;thread;fence;load r0 x;fence;thread;store x 1;swap r0 x 2;thread;load r1 x;exists 2:r1=1 or 0:r0<2;",
            "loc a 3;loc b 2;loc x 1;thread;load r0 a;fence;thread;load r1 b;store a r1;fence;store b r1;thread;thread;store x 2;"};
        for (String before : texts) {
            for (String text : texts) {
                LitmusTester x = Check.defined(before);
                answers(x);
                Check.yes("define", Check.define(x, text) >= 0);
                Check.equal(text + " after " + before, answers(x), answers(Check.defined(text)));
            }
        }
    }

    /** What can be asked about a program without changing anything but the explanation. */
    private static String answers(LitmusTester x) {
        StringBuilder all = new StringBuilder();
        for (int model = 0; model < 3; model++) {
            List<Integer> codes = Check.outcomes(x, model);
            all.append(codes).append(' ').append(x.stateCount(model)).append(' ').append(x.executionCount(model)).append(' ')
                    .append(x.matchCount(model)).append(' ').append(x.firstMatch(model)).append(' ').append(x.matchesWith(model, 0)).append(' ')
                    .append(x.matchesWith(model, (1 << x.gapCount()) - 1)).append(' ').append(x.fewestFences(model)).append(' ')
                    .append(x.repairingFences(model)).append(' ').append(x.extraOutcomes(model, 0)).append(' ');
            for (int location = 0; location < x.locationCount(); location++) {
                all.append(x.finalValues(model, location)).append(' ');
            }
            for (int thread = 0; thread < x.threadCount(); thread++) {
                all.append(x.greatestBuffer(model, thread)).append(' ');
            }
            for (int instruction = 0; instruction < x.instructionCount(); instruction++) {
                int kind = x.instruction(instruction, 1);
                all.append(kind == 0 ? 0 : kind == 3 ? (x.isFenceNeeded(model, instruction) ? 1 : 0) : x.readValues(model, instruction)).append(' ');
            }
            all.append(x.explain(model, codes.get(codes.size() - 1))).append(Check.steps(x)).append('\n');
        }
        return all.append(x.raceCount()).append(' ').append(x.gapCount()).toString();
    }

    /** "if there is an error, -(8 * offset + kind), and the current program stays." */
    private static void defineWithAnError() {
        String[] wrong = {"#", "loc z 3;loc", "loc z 4;", "loc z 1;loc z 1;", "loc z 0;thread;store x 1;", "thread;".repeat(5),
            "loc z 0;thread;store z 1;exists z=1", "loc z 0;thread;store z 1;exists z=1;;", " ".repeat(593) + "loc z 0"};
        int[] due = {-1, -89, -50, -99, -(8 * 21 + 4), -(8 * 28 + 5), -(8 * 35 + 1), -(8 * 36 + 1), -4801};
        for (int i = 0; i < wrong.length; i++) {
            LitmusTester x = Check.defined(BUFFERING + BOTH_ZERO);
            x.insertFence(0);
            Check.equal("define of " + wrong[i], Check.define(x, wrong[i]), due[i]);
            Check.equal("the program", Check.written(x), FENCED);
            Check.equal("its condition", x.matchCount(1), 1);
            Check.equal("its outcomes", Check.outcomes(x, 1), List.of(5, 69, 1029, 1093));
            Check.equal("the change", x.undo(), 0);
            Check.equal("the program", Check.written(x), BUFFERING);
        }
    }

    /** Promises 6 to 8: "the number of threads", "of locations", "of instructions, fences included". */
    private static void counts() {
        LitmusTester x = new LitmusTester();
        String locations = "loc a 0;loc b 0;loc c 0;";
        for (int n = 0; n <= 4; n++) {
            Check.define(x, "thread;fence;".repeat(n));
            Check.equal("threadCount", x.threadCount(), n);
            Check.equal("instructionCount", x.instructionCount(), n);
            Check.define(x, locations.substring(0, 8 * Math.min(n, 3)));
            Check.equal("locationCount", x.locationCount(), Math.min(n, 3));
        }
        Check.define(x, "loc a 0;" + "thread;store a 1;fence;store a 1;store a 1;store a 1;".repeat(2));
        Check.equal("instructionCount", x.instructionCount(), 10);
        x.removeFence(6);
        Check.equal("instructionCount", x.instructionCount(), 9);
        x.undo();
        Check.equal("instructionCount", x.instructionCount(), 10);
        Check.define(x, "thread;thread;thread;thread;thread;");
        Check.equal("after an error", x.instructionCount() * 100 + x.threadCount() * 10 + x.locationCount(), 1021);
    }

    /** "Returns the property; NONE for any other what. Throws IndexOutOfBoundsException if there is no such instruction". */
    private static void instruction() {
        LitmusTester x = Check.defined("loc a 0;loc b 0;loc c 0;thread;store a 0;thread;thread;thread;load r0 c;swap r1 b 3;store c r0;store a r1;fence;");
        int[][] due = {{0, 0, 0, -1, 0, -1}, {3, 1, 2, 0, -1, -1}, {3, 2, 1, 1, 3, -1}, {3, 0, 2, -1, -1, 0}, {3, 0, 0, -1, -1, 1},
            {3, 3, -1, -1, -1, -1}};
        for (int i = 0; i < due.length; i++) {
            for (int what = 0; what < 6; what++) {
                Check.equal("instruction " + i + " " + what, x.instruction(i, what), due[i][what]);
            }
            for (int other : new int[] {-1, 6, 7, 60, -6, LEAST, GREATEST}) {
                Check.equal("instruction " + i + " " + other, x.instruction(i, other), -1);
            }
        }
        for (int none : new int[] {-1, 6, 9, 10, LEAST, GREATEST}) {
            for (int what : new int[] {0, 5, -1, 6, LEAST, GREATEST}) {
                Check.thrown("instruction " + none + " " + what, BOUNDS, () -> x.instruction(none, what));
            }
        }
        Check.thrown("no instruction at all", BOUNDS, () -> new LitmusTester().instruction(0, 0));
    }

    /** "The input buffer must contain just the letters of its name. .. NONE if there is no such location, or the buffer contains anything else." */
    private static void findLocation() {
        LitmusTester x = Check.defined("loc a 0;loc zzzzzzzz 0;loc az 0;");
        Check.equal("the first one, of 1 letter", Check.findLocation(x, "a"), 0);
        Check.equal("of 8 letters", Check.findLocation(x, "zzzzzzzz"), 1);
        Check.equal("the last one", Check.findLocation(x, "az"), 2);
        for (String other : new String[] {"", "z", "aa", "za", "azz", "zzzzzzz", "zzzzzzzzz", "azzzzzzzz", " a", "a ", "a\n", "\na", "a;", "a0",
            "0", "A", "a\u0000", "\u0000a", "`a", "a{", "\u00e1", "a a", "aa".repeat(300), "a" + " ".repeat(599)}) {
            Check.equal("<" + other + ">", Check.findLocation(x, other), -1);
        }
        Check.equal("a quoted word", Check.findLocation(x, "loc"), -1);
        Check.define(x, "loc b 0;loc b 0;");
        Check.equal("after an error", Check.findLocation(x, "zzzzzzzz"), 1);
        Check.equal("after an error", Check.findLocation(x, "b"), -1);
        Check.define(x, "loc b 0;");
        Check.equal("of the new program", Check.findLocation(x, "b"), 0);
        Check.equal("of the old program", Check.findLocation(x, "a"), -1);
        Check.equal("no location at all", Check.findLocation(new LitmusTester(), "a"), -1);
        Check.equal("no location at all, and no letter", new LitmusTester().findLocation(), -1);
    }

    /** "Writes the program without its condition to the output .. Returns the length of the output." */
    private static void write() {
        Check.equal("nothing", new LitmusTester().write(), 0);
        String[] texts = {"loc x 0;", "thread;", "thread;thread;thread;thread;", "thread;fence;", "loc a 3;thread;store a 3;thread;",
            "loc abcdefgh 3;loc ijklmnop 3;loc qrstuvwx 3;thread;load r0 abcdefgh;swap r1 ijklmnop r0;store abcdefgh r0;store qrstuvwx r1;fence;"
                + "thread;swap r0 abcdefgh 3;swap r1 ijklmnop r0;store qrstuvwx r0;store qrstuvwx r1;fence;thread;thread;"};
        for (String text : texts) {
            String name = text.startsWith("loc") ? text.substring(4, text.indexOf(' ', 4)) : "";
            String condition = name.isEmpty() ? "" : "exists not (" + name + " = 1);";
            LitmusTester x = Check.defined("\n " + text.replace(" ", "\n ").replace(";", " ;\n").replace("3", "03") + condition);
            Check.equal("write", x.write(), text.length());
            Check.equal("written", Check.written(x), text);
            LitmusTester again = Check.defined(text);
            Check.equal("written again", Check.written(again), text);
        }
    }

    /** "Throws NoSuchElementException if index is out of range". */
    private static void outputByte() {
        LitmusTester x = Check.defined("loc x 0;thread;");
        for (int index : new int[] {0, 1, -1, LEAST, GREATEST}) {
            Check.thrown("before write: " + index, ELEMENT, () -> x.outputByte(index));
        }
        Check.equal("write", x.write(), 15);
        Check.equal("the first byte", x.outputByte(0), (int) 'l');
        Check.equal("the last byte", x.outputByte(14), (int) ';');
        for (int none : new int[] {15, 16, 319, 320, 600, -1, -15, LEAST, GREATEST}) {
            Check.thrown("outputByte " + none, ELEMENT, () -> x.outputByte(none));
        }
        Check.define(x, "loc y 0;");
        Check.equal("define leaves the output", x.outputByte(14), (int) ';');
        Check.equal("a shorter one", x.write(), 8);
        Check.equal("the last byte", x.outputByte(7), (int) ';');
        Check.thrown("behind it", ELEMENT, () -> x.outputByte(8));
        x.define();
        Check.equal("an empty one", x.write(), 0);
        Check.thrown("of an empty one", ELEMENT, () -> x.outputByte(0));
    }

    /** Promise 13: "Throws IllegalArgumentException if model is not 0 to 2". */
    private static void outcomeCount() {
        LitmusTester x = Check.defined(BUFFERING);
        int[] due = {3, 4, 4};
        for (int model = 0; model < 3; model++) {
            Check.equal("outcomeCount", x.outcomeCount(model), due[model]);
        }
        for (int none : NO_MODELS) {
            Check.thrown("outcomeCount " + none, ARGUMENT, () -> x.outcomeCount(none));
        }
    }

    /** Promise 14: "Returns the code of the outcome at that index; NONE if there is none." */
    private static void outcome() {
        LitmusTester x = Check.defined(BUFFERING);
        Check.equal("the first one", x.outcome(1, 0), 5);
        Check.equal("the last one", x.outcome(1, 3), 1093);
        Check.equal("the last one", x.outcome(0, 2), 1093);
        Check.equal("behind it", x.outcome(0, 3), -1);
        for (int none : new int[] {-1, 4, 5, 16, 1000, LEAST, GREATEST}) {
            for (int model = 0; model < 3; model++) {
                Check.equal("outcome " + none, x.outcome(model, none), -1);
            }
        }
        for (int none : NO_MODELS) {
            Check.thrown("outcome of model " + none, ARGUMENT, () -> x.outcome(none, 0));
            Check.thrown("outcome of model " + none, ARGUMENT, () -> x.outcome(none, -1));
        }
    }

    /** Promise 15: "code: any int". */
    private static void hasOutcome() {
        LitmusTester x = Check.defined(BUFFERING);
        // All codes from 0 to 1371, in parts, because an object is used for at most 512 calls.
        int[] due = {2, 0, 0, 2};
        for (int part = 0; part < due.length; part++) {
            LitmusTester fresh = Check.defined(BUFFERING);
            int found = 0;
            for (int code = 343 * part; code < 343 * (part + 1); code++) {
                found += fresh.hasOutcome(1, code) ? 1 : 0;
            }
            Check.equal("no other code has one, part " + part, found, due[part]);
        }
        for (int code : new int[] {5, 69, 1029, 1093}) {
            Check.yes("the code " + code, x.hasOutcome(1, code));
            Check.equal("the code " + code, x.hasOutcome(0, code), code != 5);
            Check.no("a digit more", x.hasOutcome(1, code + 4096));
            Check.no("a sign", x.hasOutcome(1, code + LEAST));
            Check.no("a sign", x.hasOutcome(1, -code));
        }
        for (int none : new int[] {-1, LEAST, GREATEST}) {
            Check.no("hasOutcome " + none, x.hasOutcome(1, none));
        }
        for (int none : NO_MODELS) {
            Check.thrown("hasOutcome of model " + none, ARGUMENT, () -> x.hasOutcome(none, 5));
        }
    }

    /** Promise 16: "Throws IllegalArgumentException if a model is not 0 to 2". */
    private static void extraOutcomes() {
        LitmusTester x = Check.defined(XY + "thread;store x 1;store y 1;thread;load r0 y;load r1 x;thread;store y 3;load r0 x;");
        for (int model = 0; model < 3; model++) {
            Check.equal("of a model and itself", x.extraOutcomes(model, model), 0);
            for (int other = model; other < 3; other++) {
                Check.equal("of a model and a weaker one", x.extraOutcomes(model, other), 0);
                Check.equal("of a weaker one", x.extraOutcomes(other, model), x.outcomeCount(other) - x.outcomeCount(model));
            }
        }
        Check.yes("some", x.extraOutcomes(1, 0) > 0 && x.extraOutcomes(2, 1) > 0);
        Check.equal("the first outcome alone", Check.defined(BUFFERING).extraOutcomes(1, 0), 1);
        Check.equal("the last outcome alone", Check.defined("loc x 1;loc y 1;thread;store x 0;load r0 y;thread;store y 0;load r0 x;")
                .extraOutcomes(1, 0), 1);
        for (int none : NO_MODELS) {
            for (int model = 0; model < 3; model++) {
                int one = model;
                Check.thrown("extraOutcomes", ARGUMENT, () -> x.extraOutcomes(one, none));
                Check.thrown("extraOutcomes", ARGUMENT, () -> x.extraOutcomes(none, one));
            }
            Check.thrown("extraOutcomes", ARGUMENT, () -> x.extraOutcomes(none, none));
        }
    }

    /** Promise 17: "false if code is negative, or has more digits than the codes of the outcomes of this program." */
    private static void fulfils() {
        String[] threads = {"", "thread;", "thread;thread;", "thread;thread;thread;", "thread;thread;thread;thread;"};
        for (int locations = 0; locations <= 3; locations++) {
            for (int count = 0; count <= 4; count++) {
                LitmusTester x = Check.defined("loc a 0;loc b 0;loc c 0;".substring(0, 8 * locations) + threads[count]);
                int codes = 1 << 2 * (2 * count + locations);
                Check.yes("0", x.fulfils(0));
                Check.yes("the greatest code", x.fulfils(codes - 1));
                Check.no("one digit more", x.fulfils(codes));
                Check.no("one digit more", x.fulfils(codes + 1));
                Check.no("the greatest int", x.fulfils(GREATEST));
                Check.no("negative", x.fulfils(-1));
                Check.no("negative", x.fulfils(-codes));
                Check.no("the least int", x.fulfils(LEAST));
                Check.no("the least int and a code", x.fulfils(LEAST + codes - 1));
            }
        }
        LitmusTester x = Check.defined("loc x 0;loc y 0;thread;load r0 x;exists not(0:r0<2) and x=3 and y<1;");
        Check.yes("fulfilled, and no outcome", x.fulfils(2 * 64 + 3 * 4));
        Check.yes("fulfilled", x.fulfils(3 * 64 + 3 * 4));
        Check.no("another register", x.fulfils(64 + 3 * 4));
        Check.no("another location", x.fulfils(2 * 64 + 2 * 4));
        Check.no("another location", x.fulfils(2 * 64 + 3 * 4 + 1));
        Check.no("fulfilled but for a digit too many", x.fulfils(256 + 2 * 64 + 3 * 4));
        Check.no("fulfilled but for the sign", x.fulfils(LEAST + 2 * 64 + 3 * 4));
    }

    /** Promises 18 and 19: "the number of outcomes that fulfil the condition", "NONE if there is none". */
    private static void matches() {
        String[] conditions = {"x=3", "0:r0=0 and 1:r0=0", "0:r0=1 and 1:r0=1", "x=1"};
        int[][] counts = {{0, 0, 0}, {0, 1, 1}, {1, 1, 1}, {3, 4, 4}};
        int[][] firsts = {{-1, -1, -1}, {-1, 5, 5}, {1093, 1093, 1093}, {69, 5, 5}};
        for (int i = 0; i < conditions.length; i++) {
            LitmusTester x = Check.defined(BUFFERING + "exists " + conditions[i] + ";");
            for (int model = 0; model < 3; model++) {
                Check.equal("matchCount of " + conditions[i], x.matchCount(model), counts[i][model]);
                Check.equal("firstMatch of " + conditions[i], x.firstMatch(model), firsts[i][model]);
            }
            for (int none : NO_MODELS) {
                Check.thrown("matchCount", ARGUMENT, () -> x.matchCount(none));
                Check.thrown("firstMatch", ARGUMENT, () -> x.firstMatch(none));
            }
        }
        Check.equal("a first outcome of 0", Check.defined("loc x 0;thread;load r0 x;").firstMatch(0), 0);
    }

    /** Promise 20. */
    private static void stateCount() {
        LitmusTester x = Check.defined("loc x 0;thread;store x 0;");
        int[] due = {2, 3, 3};
        for (int model = 0; model < 3; model++) {
            Check.equal("stateCount", x.stateCount(model), due[model]);
            Check.equal("the least", new LitmusTester().stateCount(model), 1);
        }
        for (int none : NO_MODELS) {
            Check.thrown("stateCount of model " + none, ARGUMENT, () -> x.stateCount(none));
        }
    }

    /** Promises 21 and 22. */
    private static void executions() {
        LitmusTester x = Check.defined(BUFFERING);
        Check.equal("executionCount", x.executionCount(0), 6L);
        Check.equal("executionCount", x.executionCount(1), 80L);
        Check.equal("executionsWith the first outcome", x.executionsWith(0, 69), 1L);
        Check.equal("executionsWith the last outcome", x.executionsWith(0, 1093), 4L);
        for (int none : new int[] {-1, 0, 4, 6, 68, 70, 1092, 1094, 4096 + 69, LEAST + 69, LEAST, GREATEST}) {
            for (int model = 0; model < 3; model++) {
                Check.equal("executionsWith " + none, x.executionsWith(model, none), 0L);
            }
        }
        for (int none : NO_MODELS) {
            Check.thrown("executionCount of model " + none, ARGUMENT, () -> x.executionCount(none));
            Check.thrown("executionsWith of model " + none, ARGUMENT, () -> x.executionsWith(none, 69));
        }
    }

    /** Promise 23: the sets from one value to all four, and "Throws NoSuchElementException if it is neither a load nor a swap". */
    private static void readValues() {
        LitmusTester x = Check.defined("loc x 0;loc y 3;thread;load r0 x;fence;swap r1 x 3;thread;store x 1;store x 2;load r0 y;");
        for (int model = 0; model < 3; model++) {
            Check.equal("0, 1 and 2", x.readValues(model, 0), 7);
            Check.equal("0, 1 and 2", x.readValues(model, 2), 7);
            Check.equal("3 alone", x.readValues(model, 5), 8);
            int one = model;
            for (int other : new int[] {1, 3, 4}) {
                Check.thrown("a fence or a store", ELEMENT, () -> x.readValues(one, other));
            }
            for (int none : new int[] {-1, 6, 10, LEAST, GREATEST}) {
                Check.thrown("no instruction", BOUNDS, () -> x.readValues(one, none));
            }
        }
        LitmusTester all = Check.defined("loc x 0;thread;load r0 x;thread;store x 1;store x 2;store x 3;");
        Check.equal("all four values", all.readValues(1, 0), 15);
        for (int none : NO_MODELS) {
            Check.thrown("no model", ARGUMENT, () -> x.readValues(none, 0));
        }
    }

    /** Promise 24. */
    private static void finalValues() {
        LitmusTester x = Check.defined("loc x 3;loc y 0;loc z 2;thread;store x 0;thread;store x 1;thread;store y 3;thread;store y 2;");
        for (int model = 0; model < 3; model++) {
            int one = model;
            Check.equal("0 and 1", x.finalValues(model, 0), 3);
            Check.equal("2 and 3", x.finalValues(model, 1), 12);
            Check.equal("the last location", x.finalValues(model, 2), 4);
            for (int none : new int[] {-1, 3, LEAST, GREATEST}) {
                Check.thrown("no location", BOUNDS, () -> x.finalValues(one, none));
            }
            Check.thrown("no location at all", BOUNDS, () -> new LitmusTester().finalValues(one, 0));
        }
        Check.equal("all four values", Check.defined("loc x 0;thread;store x 0;thread;store x 1;thread;store x 2;thread;store x 3;")
                .finalValues(0, 0), 15);
        for (int none : NO_MODELS) {
            Check.thrown("no model", ARGUMENT, () -> x.finalValues(none, 0));
        }
    }

    /** Promise 25. */
    private static void greatestBuffer() {
        LitmusTester x = Check.defined(XY + "thread;store x 1;store y 1;store x 1;store y 1;thread;store x 1;store x 2;fence;store y 1;"
                + "thread;store x 1;thread;");
        int[] due = {4, 2, 1, 0};
        for (int thread = 0; thread < 4; thread++) {
            Check.equal("model 0", x.greatestBuffer(0, thread), 0);
            Check.equal("model 1", x.greatestBuffer(1, thread), due[thread]);
            Check.equal("model 2", x.greatestBuffer(2, thread), due[thread]);
        }
        for (int model = 0; model < 3; model++) {
            int one = model;
            for (int none : new int[] {-1, 4, LEAST, GREATEST}) {
                Check.thrown("no thread", BOUNDS, () -> x.greatestBuffer(one, none));
            }
            Check.thrown("no thread at all", BOUNDS, () -> new LitmusTester().greatestBuffer(one, 0));
            LitmusTester few = Check.defined("thread;fence;");
            Check.equal("no store", few.greatestBuffer(model, 0), 0);
            Check.thrown("no such thread here", BOUNDS, () -> few.greatestBuffer(one, 1));
        }
        LitmusTester late = Check.defined(XY + "thread;store x 1;swap r0 y 1;store x 1;store x 2;");
        Check.equal("behind a swap", late.greatestBuffer(1, 0), 2);
        for (int none : NO_MODELS) {
            Check.thrown("no model", ARGUMENT, () -> x.greatestBuffer(none, 0));
        }
    }

    /** Promise 26: "Throws IndexOutOfBoundsException if one of the instructions does not exist". */
    private static void isRace() {
        LitmusTester x = Check.defined(BUFFERING);
        Check.yes("the first one and the last one", x.isRace(0, 3));
        Check.yes("the last one and the first one", x.isRace(3, 0));
        Check.no("different locations", x.isRace(0, 2));
        Check.no("one thread", x.isRace(0, 1));
        Check.no("one instruction", x.isRace(0, 0));
        for (int none : new int[] {-1, 4, 5, 10, LEAST, GREATEST}) {
            Check.thrown("isRace", BOUNDS, () -> x.isRace(0, none));
            Check.thrown("isRace", BOUNDS, () -> x.isRace(none, 0));
            Check.thrown("isRace", BOUNDS, () -> x.isRace(3, none));
            Check.thrown("isRace", BOUNDS, () -> x.isRace(none, 3));
            Check.thrown("isRace", BOUNDS, () -> x.isRace(none, none));
        }
        Check.thrown("no instruction at all", BOUNDS, () -> new LitmusTester().isRace(0, 0));
    }

    /** Promise 27: "the number of pairs of instructions that race (both orders of a pair are one)." */
    private static void raceCount() {
        Check.equal("none", Check.defined("loc x 0;thread;store x 1;store x 2;thread;").raceCount(), 0);
        Check.equal("one", Check.defined("loc x 0;thread;store x 1;thread;store x 2;").raceCount(), 1);
        Check.equal("16", Check.defined("loc x 0;" + "thread;store x 1;store x 1;load r0 x;swap r0 x 1;".replace("load r0", "load r1").repeat(2))
                .raceCount(), 16 - 2);
    }

    /** Promises 28 and 29: "NONE if there is no such gap." */
    private static void gaps() {
        LitmusTester x = Check.defined("loc x 0;thread;store x 1;store x 1;store x 1;store x 1;thread;store x 1;store x 1;store x 1;store x 1;");
        int[] due = {1, 2, 3, 5, 6, 7};
        Check.equal("gapCount", x.gapCount(), 6);
        for (int gap = 0; gap < 6; gap++) {
            Check.equal("gapBefore " + gap, x.gapBefore(gap), due[gap]);
        }
        for (int none : new int[] {-1, 6, 7, 31, 32, LEAST, GREATEST}) {
            Check.equal("gapBefore " + none, x.gapBefore(none), -1);
        }
        x.insertFence(5);
        Check.equal("one less", x.gapCount(), 5);
        Check.equal("the last one", x.gapBefore(4), 6);
        Check.equal("no more", x.gapBefore(5), -1);
        x.undo();
        Check.equal("one more", x.gapBefore(5), 7);
        Check.equal("no program", new LitmusTester().gapBefore(0), -1);
    }

    /** Promise 30: "Throws .. if model is not 0 to 2, or the set has a bit for which there is no gap". */
    private static void matchesWith() {
        String stores = "thread;store x 1;store x 1;store x 1;store x 1;";
        for (int gaps = 0; gaps <= 6; gaps++) {
            String text = "loc x 0;thread;" + "store x 1;".repeat(Math.min(gaps, 3) + 1)
                    + (gaps < 4 ? "" : "thread;" + "store x 1;".repeat(gaps - 2));
            LitmusTester x = Check.defined(text);
            Check.equal("gapCount", x.gapCount(), gaps);
            int none = 1 << gaps;
            for (int model = 0; model < 3; model++) {
                int one = model;
                Check.equal("the empty set", x.matchesWith(model, 0), 1);
                Check.equal("all gaps", x.matchesWith(model, none - 1), 1);
                Check.thrown("one gap more", ARGUMENT, () -> x.matchesWith(one, none));
                Check.thrown("one gap more", ARGUMENT, () -> x.matchesWith(one, 2 * none - 1));
                for (int other : new int[] {-1, LEAST, GREATEST, 1 << 30, 1 << 16, LEAST + 1, -none}) {
                    Check.thrown("matchesWith " + other, ARGUMENT, () -> x.matchesWith(one, other));
                }
            }
            for (int other : NO_MODELS) {
                Check.thrown("no model", ARGUMENT, () -> x.matchesWith(other, 0));
            }
        }
        LitmusTester x = Check.defined("loc x 0;" + stores + stores);
        Check.equal("6 gaps", x.matchesWith(2, 63), 1);
        Check.thrown("no 7th gap", ARGUMENT, () -> x.matchesWith(2, 64));
        LitmusTester changed = Check.defined(BUFFERING);
        changed.insertFence(0);
        Check.thrown("a gap that is filled", ARGUMENT, () -> changed.matchesWith(1, 2));
        changed.undo();
        Check.equal("a gap again", changed.matchesWith(1, 2), 4);
    }

    /** Promise 31: "the set with the fewest gaps, among several the one with the least bit mask; NONE if there is no such set." */
    private static void fewestFences() {
        LitmusTester always = Check.defined(BUFFERING + "exists 0:r0=1 and 1:r0=1;");
        LitmusTester never = Check.defined(BUFFERING + "exists x=3;");
        LitmusTester both = Check.defined(BUFFERING + BOTH_ZERO);
        int[] due = {0, 3, 3};
        for (int model = 0; model < 3; model++) {
            Check.equal("no such set", always.fewestFences(model), -1);
            Check.equal("the empty set", never.fewestFences(model), 0);
            Check.equal("both gaps", both.fewestFences(model), due[model]);
        }
        // Either of two gaps of thread 0 is enough; then the one with the least mask is due.
        LitmusTester several = Check.defined("loc x 0;loc y 0;loc z 0;thread;store x 1;store z 1;load r0 y;thread;store y 1;fence;load r0 x;" + BOTH_ZERO);
        Check.equal("one is enough", several.matchesWith(1, 1) + several.matchesWith(1, 2), 0);
        Check.equal("the least mask", several.fewestFences(1), 1);
        // One gap with a great number is fewer than two with small ones.
        LitmusTester fewer = Check.defined("loc x 0;loc y 0;thread;load r0 x;load r1 x;thread;store y 1;load r0 y;load r1 x;thread;store x 1;fence;load r0 y;"
                + "exists 1:r1=0 and 2:r0=0;");
        Check.equal("gaps", fewer.gapCount(), 3);
        Check.equal("a fence before the loads", fewer.matchesWith(1, 2), 0);
        Check.equal("the least one that helps", fewer.fewestFences(1), 2);
        LitmusTester last = Check.defined("loc x 0;loc y 0;thread;load r0 x;load r1 x;thread;load r0 y;store y 1;load r1 x;thread;store x 1;fence;load r0 y;"
                + "exists 1:r1=0 and 2:r0=0;");
        Check.equal("the last gap", last.fewestFences(1), 4);
        // A fence in gap 2 orders the stores of thread 2; gaps 0 and 1 have the lesser mask, but they are two.
        LitmusTester single = Check.defined("loc x 0;loc y 0;loc z 0;thread;store x 1;load r0 y;thread;store y 1;load r0 x;"
                + "thread;store z 1;store x 2;thread;load r0 x;load r1 z;exists 0:r0=0 and 1:r0=0 and 3:r0=2 and 3:r1=0;");
        int[] matches = {1, 1, 1, 0, 0, 0, 0, 0};
        for (int set = 0; set < 8; set++) {
            Check.equal("the set " + set, single.matchesWith(2, set) > 0, matches[set] > 0);
        }
        Check.equal("one gap before two", single.fewestFences(2), 4);
        // It forbids what the condition says, and leaves what else is not in model 0.
        LitmusTester less = Check.defined(XY + "thread;store x 1;load r0 y;thread;store y 1;load r0 x;exists 0:r0=2;");
        Check.equal("nothing to forbid", less.fewestFences(1), 0);
        Check.equal("but something to repair", less.repairingFences(1), 3);
        for (int none : NO_MODELS) {
            Check.thrown("no model", ARGUMENT, () -> both.fewestFences(none));
            Check.thrown("no model", ARGUMENT, () -> always.fewestFences(none));
        }
    }

    /** Promise 32: "has the same outcomes as this program has in model 0." */
    private static void repairingFences() {
        LitmusTester x = Check.defined(BUFFERING + "exists x=3;");
        int[] due = {0, 3, 3};
        for (int model = 0; model < 3; model++) {
            Check.equal("both gaps", x.repairingFences(model), due[model]);
            Check.equal("no gap", Check.defined("loc x 0;thread;store x 1;thread;store x 2;").repairingFences(model), 0);
            Check.equal("no program", new LitmusTester().repairingFences(model), 0);
        }
        LitmusTester several = Check.defined("loc x 0;loc y 0;loc z 0;thread;store x 1;store z 1;load r0 y;thread;store y 1;fence;load r0 x;");
        Check.equal("the least of several masks", several.repairingFences(1), 1);
        LitmusTester later = Check.defined("loc x 0;loc y 0;loc z 0;thread;store z 1;store x 1;load r0 y;thread;store y 1;fence;load r0 x;");
        Check.equal("the second gap", later.repairingFences(1), 2);
        LitmusTester all = Check.defined("loc x 0;loc y 0;loc z 0;thread;store y 3;store x 1;store z 3;load r0 y;"
                + "thread;store x 2;store y 2;store z 1;load r0 x;");
        Check.equal("all six gaps", all.repairingFences(2), 63);
        LitmusTester single = Check.defined("loc y 0;loc x 1;thread;store y 3;store x 2;store x 2;fence;load r0 x;thread;load r0 x;"
                + "thread;store x 3;store x 2;store y 1;");
        int sequential = single.outcomeCount(0);
        for (int set = 0; set < 16; set++) {
            Check.equal("the set " + set, single.matchesWith(2, set) == sequential, set >= 5);
        }
        Check.equal("one gap before two", single.repairingFences(2), 8);
        for (int none : NO_MODELS) {
            Check.thrown("no model", ARGUMENT, () -> x.repairingFences(none));
        }
    }

    /** Promise 33. */
    private static void isFenceNeeded() {
        LitmusTester x = Check.defined(XY + "thread;fence;store x 1;fence;load r0 y;fence;thread;fence;store y 1;fence;load r0 x;");
        for (int model = 0; model < 3; model++) {
            int one = model;
            for (int fence : new int[] {0, 2, 4, 5, 7}) {
                boolean between = fence == 2 || fence == 7;
                Check.equal("the fence " + fence, x.isFenceNeeded(model, fence), model > 0 && between);
            }
            for (int other : new int[] {1, 3, 6, 8}) {
                Check.thrown("no fence", ELEMENT, () -> x.isFenceNeeded(one, other));
            }
            for (int none : new int[] {-1, 9, 10, LEAST, GREATEST}) {
                Check.thrown("no instruction", BOUNDS, () -> x.isFenceNeeded(one, none));
            }
        }
        LitmusTester twice = Check.defined(XY + "thread;store x 1;fence;fence;load r0 y;thread;store y 1;fence;load r0 x;");
        Check.no("the first of two", twice.isFenceNeeded(1, 1));
        Check.no("the second of two", twice.isFenceNeeded(1, 2));
        Check.yes("the only one", twice.isFenceNeeded(1, 5));
        LitmusTester ten = Check.defined(XY + "thread;fence;fence;fence;fence;store x 1;load r0 y;thread;store y 1;load r0 x;fence;fence;");
        Check.no("the last instruction of 10", ten.isFenceNeeded(2, 9));
        for (int none : NO_MODELS) {
            Check.thrown("no model", ARGUMENT, () -> x.isFenceNeeded(none, 0));
        }
    }

    /** Promise 34: "Throws IndexOutOfBoundsException if there is no such gap". */
    private static void insertFence() {
        LitmusTester x = Check.defined(XY + "thread;load r0 x;store y r0;thread;load r1 y;swap r0 x r1;store y 3;");
        for (int none : new int[] {-1, 3, 4, 31, 32, LEAST, GREATEST}) {
            Check.thrown("insertFence " + none, BOUNDS, () -> x.insertFence(none));
        }
        Check.equal("the last gap", x.insertFence(2), 4);
        Check.equal("the first gap", x.insertFence(0), 1);
        Check.equal("the only gap left", x.insertFence(0), 4);
        Check.equal("written", Check.written(x), XY + "thread;load r0 x;fence;store y r0;thread;load r1 y;fence;swap r0 x r1;fence;store y 3;");
        for (int none : new int[] {-1, 0, 1}) {
            Check.thrown("insertFence " + none, BOUNDS, () -> x.insertFence(none));
        }
        for (int fence : new int[] {1, 4, 6}) {
            Check.equal("its thread", x.instruction(fence, 0), fence == 1 ? 0 : 1);
            Check.equal("its kind", x.instruction(fence, 1), 3);
            for (int what = 2; what < 6; what++) {
                Check.equal("the fence " + fence + " has no " + what, x.instruction(fence, what), -1);
            }
        }
        Check.thrown("no program", BOUNDS, () -> new LitmusTester().insertFence(0));
    }

    /** Promise 34: "Throws IllegalStateException if the thread has 7 instructions". */
    private static void insertFenceIntoAFullThread() {
        LitmusTester x = Check.defined("loc x 0;thread;fence;fence;fence;store x 1;store x 1;store x 1;thread;store x 1;store x 1;");
        Check.equal("the 7th instruction", x.insertFence(0), 4);
        Check.thrown("an 8th", STATE, () -> x.insertFence(0));
        Check.equal("its size", x.instructionCount(), 9);
        Check.equal("undo", x.undo(), 0);
        Check.equal("the 7th instruction, elsewhere", x.insertFence(1), 5);
        Check.thrown("an 8th", STATE, () -> x.insertFence(0));
        Check.equal("the other thread has room", x.insertFence(1), 8);
        LitmusTester seven = Check.defined("loc x 0;thread;store x 1;store x 1;thread;fence;fence;fence;fence;fence;store x 1;store x 1;");
        Check.thrown("an 8th of the last thread", STATE, () -> seven.insertFence(1));
        Check.equal("the first thread has room", seven.insertFence(0), 1);
    }

    /** Promise 34: ".. or the program has 10". */
    private static void insertFenceIntoAFullProgram() {
        LitmusTester x = Check.defined("loc x 0;" + "thread;fence;store x 1;store x 1;".repeat(3));
        Check.equal("9 instructions", x.instructionCount(), 9);
        Check.equal("the 10th", x.insertFence(2), 8);
        Check.thrown("an 11th", STATE, () -> x.insertFence(0));
        Check.thrown("an 11th", STATE, () -> x.insertFence(1));
        Check.thrown("no such gap", BOUNDS, () -> x.insertFence(2));
        Check.equal("10 instructions", x.instructionCount(), 10);
        Check.equal("one less", x.removeFence(0), 9);
        Check.equal("room for one", x.insertFence(1), 4);
        Check.thrown("and not for two", STATE, () -> x.insertFence(0));
        Check.equal("undo", x.undo(), 2);
    }

    /** Promise 35: "Returns the number of instructions that are left." */
    private static void removeFence() {
        LitmusTester x = Check.defined("loc x 0;thread;fence;load r0 x;fence;swap r1 x 1;store x 1;thread;fence;");
        for (int none : new int[] {-1, 6, 7, 10, LEAST, GREATEST}) {
            Check.thrown("no instruction", BOUNDS, () -> x.removeFence(none));
        }
        for (int other : new int[] {1, 3, 4}) {
            Check.thrown("no fence", ELEMENT, () -> x.removeFence(other));
        }
        Check.equal("the last one", x.removeFence(5), 5);
        Check.thrown("no longer there", BOUNDS, () -> x.removeFence(5));
        Check.equal("the first one", x.removeFence(0), 4);
        Check.equal("the middle one", x.removeFence(1), 3);
        Check.equal("written", Check.written(x), "loc x 0;thread;load r0 x;swap r1 x 1;store x 1;thread;");
        Check.equal("undo", x.undo(), 2);
        Check.equal("undo", x.undo(), 1);
        Check.equal("undo", x.undo(), 0);
        Check.equal("written", Check.written(x), "loc x 0;thread;fence;load r0 x;fence;swap r1 x 1;store x 1;thread;fence;");
        LitmusTester only = Check.defined("thread;fence;");
        Check.equal("none is left", only.removeFence(0), 0);
        Check.thrown("none is left", BOUNDS, () -> only.removeFence(0));
        LitmusTester full = Check.defined("thread;fence;fence;fence;fence;fence;".repeat(2));
        Check.equal("the last one of 10", full.removeFence(9), 9);
        Check.equal("undo", full.undo(), 0);
        Check.equal("the last one of 10", full.instruction(9, 0), 1);
    }

    /** Promise 36: "Returns the number of changes that can still be undone; NONE if there is none to undo." */
    private static void undo() {
        LitmusTester x = Check.defined(FENCED);
        Check.equal("no change", x.undo(), -1);
        x.removeFence(1);
        Check.equal("one change", x.undo(), 0);
        Check.equal("no more", x.undo(), -1);
        Check.equal("written", Check.written(x), FENCED);
        for (int i = 0; i < 4; i++) {
            x.removeFence(1);
            x.insertFence(0);
        }
        Check.equal("8 changes", x.undo(), 7);
        x.insertFence(0);
        x.removeFence(1);
        for (int left = 7; left >= 0; left--) {
            Check.equal("the 9th is lost", x.undo(), left);
        }
        Check.equal("no more", x.undo(), -1);
        Check.equal("written", Check.written(x), BUFFERING);
    }

    /** The same at the ends of threads. */
    private static void undoAtTheEndsOfThreads() {
        String text = XY + "thread;fence;store x 1;fence;thread;fence;thread;fence;store y 2;load r0 x;fence;";
        int[] fences = {0, 2, 3, 4, 7};
        for (int fence : fences) {
            LitmusTester x = Check.defined(text);
            Check.equal("removeFence", x.removeFence(fence), 7);
            Check.equal("undo", x.undo(), 0);
            Check.equal("written", Check.written(x), text);
            for (int what = 2; what < 6; what++) {
                Check.equal("the fence has no " + what, x.instruction(fence, what), -1);
            }
        }
        LitmusTester x = Check.defined(text);
        for (int i = fences.length - 1; i >= 0; i--) {
            Check.equal("removeFence", x.removeFence(fences[i]), 3 + i);
        }
        Check.equal("written", Check.written(x), XY + "thread;store x 1;thread;thread;store y 2;load r0 x;");
        for (int left = 4; left >= 0; left--) {
            Check.equal("undo", x.undo(), left);
        }
        Check.equal("written", Check.written(x), text);
    }

    /** What is answered follows each change and each undo. */
    private static void answersFollowChanges() {
        LitmusTester x = Check.defined(BUFFERING + BOTH_ZERO);
        String first = answers(x);
        x.insertFence(0);
        Check.equal("after insertFence", answers(x), answers(Check.defined(FENCED + BOTH_ZERO)));
        x.undo();
        Check.equal("after undo", answers(x), first);
        LitmusTester y = Check.defined(FENCED + BOTH_ZERO);
        String fenced = answers(y);
        y.removeFence(1);
        Check.equal("after removeFence", answers(y), first);
        y.undo();
        Check.equal("after undo", answers(y), fenced);
    }

    /** Promise 37: "NONE if there is no such execution, and then the former explanation stays." */
    private static void explain() {
        LitmusTester x = Check.defined(BUFFERING);
        for (int none : new int[] {-1, 0, 5, 4096 + 69, LEAST + 69, LEAST, GREATEST}) {
            Check.equal("explain " + none, x.explain(0, none), -1);
            Check.equal("no explanation", x.step(0), -1);
            Check.thrown("no explanation", ELEMENT, () -> x.readsFrom(1));
        }
        Check.equal("explain", x.explain(1, 5), 6);
        for (int none : new int[] {-1, 0, 4, 6, 4096 + 5, LEAST + 5, LEAST, GREATEST}) {
            Check.equal("explain " + none, x.explain(1, none), -1);
            Check.equal("explain " + none, x.explain(0, none), -1);
            Check.equal("the former one", Check.steps(x), List.of(0, 0, 10, 10, 1, 12));
        }
        for (int none : NO_MODELS) {
            Check.thrown("no model", ARGUMENT, () -> x.explain(none, 69));
            Check.equal("the former one", Check.steps(x), List.of(0, 0, 10, 10, 1, 12));
        }
        Check.equal("another one", x.explain(0, 1029), 4);
        Check.equal("steps", Check.steps(x), List.of(10, 10, 0, 0));
        Check.equal("without steps", new LitmusTester().explain(2, 0), 0);
        for (int model = 0; model < 3; model++) {
            LitmusTester many = Check.defined("loc x 0;thread;store x 3;store x 1;thread;load r0 x;load r1 x;thread;load r0 x;load r1 x;"
                    + "thread;store x 2;");
            Check.yes("many outcomes", many.outcomeCount(model) > 40);
            for (int code : Check.outcomes(many, model)) {
                Check.equal("each of them", many.explain(model, code), model == 0 ? 7 : 10);
            }
        }
    }

    /** Promise 38: "Returns the number of the step at that index of the explanation; NONE if there is none." */
    private static void step() {
        LitmusTester x = Check.defined(BUFFERING);
        Check.equal("no explanation", x.step(0), -1);
        x.explain(1, 5);
        Check.equal("the first step", x.step(0), 0);
        Check.equal("the last step", x.step(5), 12);
        for (int none : new int[] {-1, 6, 7, 17, 18, LEAST, GREATEST}) {
            Check.equal("step " + none, x.step(none), -1);
        }
        LitmusTester longest = Check.defined("loc x 0;thread;store x 1;store x 1;store x 1;store x 1;fence;thread;fence;store x 2;store x 2;store x 2;store x 2;");
        Check.equal("explain", longest.explain(2, 1), 18);
        Check.equal("the last of 18 steps", longest.step(17), 0);
        Check.equal("no 19th", longest.step(18), -1);
        Check.equal("a shorter one", longest.explain(0, 1), 10);
        Check.equal("the last of 10 steps", longest.step(9), 0);
        Check.equal("no 11th", longest.step(10), -1);
        LitmusTester none = new LitmusTester();
        none.explain(0, 0);
        Check.equal("an explanation without steps", none.step(0), -1);
    }

    /** Promise 39: "NONE if it reads an initial value. .. it is neither a load nor a swap, or there is no explanation". */
    private static void readsFrom() {
        LitmusTester x = Check.defined("loc x 0;loc y 1;thread;load r0 x;fence;load r1 y;thread;store x 1;store x 1;swap r0 x 2;swap r1 x 3;");
        for (int none : new int[] {-1, 7, 10, LEAST, GREATEST}) {
            Check.thrown("no instruction, no explanation", BOUNDS, () -> x.readsFrom(none));
        }
        for (int i = 0; i < 7; i++) {
            int any = i;
            Check.thrown("no explanation", ELEMENT, () -> x.readsFrom(any));
        }
        // Digits: r0 r1 of thread 0, r0 r1 of thread 1, x, y. First what reads the initial value of x.
        Check.equal("explain", x.explain(1, 256 + 64 + 2 * 16 + 3 * 4 + 1), 9);
        Check.equal("an initial value", x.readsFrom(0), -1);
        Check.equal("an initial value that is not 0", x.readsFrom(2), -1);
        Check.equal("the second of two equal values", x.readsFrom(5), 4);
        Check.equal("a swap of the same thread", x.readsFrom(6), 5);
        for (int other : new int[] {1, 3, 4}) {
            Check.thrown("a fence or a store", ELEMENT, () -> x.readsFrom(other));
        }
        for (int none : new int[] {-1, 7, 10, LEAST, GREATEST}) {
            Check.thrown("no instruction", BOUNDS, () -> x.readsFrom(none));
        }
        // Thread 0 reads at last: from the last instruction.
        Check.equal("explain", x.explain(0, 3 * 1024 + 256 + 64 + 2 * 16 + 3 * 4 + 1), 7);
        Check.equal("the last instruction", x.readsFrom(0), 6);
        Check.equal("a store of model 0", x.readsFrom(5), 4);
        Check.equal("an initial value", x.readsFrom(2), -1);
        LitmusTester ten = Check.defined("loc x 0;thread;fence;fence;fence;fence;fence;thread;store x 1;fence;fence;swap r1 x 2;fence;");
        Check.equal("explain", ten.explain(2, 4 + 2), 11);
        Check.equal("the 9th instruction", ten.readsFrom(8), 5);
        Check.thrown("the 10th instruction", ELEMENT, () -> ten.readsFrom(9));
        for (String last : new String[] {"load r1 x", "swap r1 x 2"}) {
            LitmusTester full = Check.defined("loc x 3;thread;store x 1;thread;fence;fence;fence;fence;thread;fence;fence;fence;fence;" + last + ";");
            int end = last.startsWith("load") ? 1 : 2;
            Check.equal("explain", full.explain(1, 4 + end), 11);
            Check.equal("the 10th instruction", full.readsFrom(9), 0);
            Check.equal("explain", full.explain(1, 3 * 4 + 1), 11);
            Check.equal("the 10th instruction, of an initial value", full.readsFrom(9), -1);
        }
    }

    /** Promise 40: "(the initial value does not count); NONE if there is none, or there is no explanation." */
    private static void writtenBy() {
        LitmusTester x = Check.defined("loc x 3;loc y 0;loc z 0;thread;store x 3;swap r0 z 1;thread;store x 1;store x 1;");
        for (int location = 0; location < 3; location++) {
            Check.equal("no explanation", x.writtenBy(location, 0), -1);
        }
        for (int none : new int[] {-1, 3, 4, LEAST, GREATEST}) {
            Check.thrown("no location, no explanation", BOUNDS, () -> x.writtenBy(none, 0));
        }
        Check.equal("explain", x.explain(1, 16 + 1), 7);
        int[][] due = {{0, 2, 3, -1}, {-1, -1, -1, -1}, {1, -1, -1, -1}};
        for (int location = 0; location < 3; location++) {
            for (int index = 0; index < 4; index++) {
                Check.equal("writtenBy " + location + " " + index, x.writtenBy(location, index), due[location][index]);
            }
            for (int none : new int[] {-1, 4, 8, LEAST, GREATEST}) {
                Check.equal("writtenBy " + location + " " + none, x.writtenBy(location, none), -1);
            }
        }
        for (int none : new int[] {-1, 3, 4, LEAST, GREATEST}) {
            Check.thrown("no location", BOUNDS, () -> x.writtenBy(none, 0));
            Check.thrown("no location", BOUNDS, () -> x.writtenBy(none, -1));
        }
        Check.equal("explain in model 0", x.explain(0, 3 * 16 + 1), 4);
        int[][] sequential = {{2, 3, 0, -1}, {-1, -1, -1, -1}, {1, -1, -1, -1}};
        for (int location = 0; location < 3; location++) {
            for (int index = 0; index < 4; index++) {
                Check.equal("model 0: " + location + " " + index, x.writtenBy(location, index), sequential[location][index]);
            }
        }
        x.define();
        Check.thrown("no location at all", BOUNDS, () -> x.writtenBy(0, 0));
    }

    /** "If several exceptions are possible in a call, the one that is listed first is thrown." */
    private static void firstExceptionOfSeveral() {
        LitmusTester x = Check.defined(BUFFERING);
        for (int model : NO_MODELS) {
            for (int wrong : new int[] {-1, 0, 4, LEAST, GREATEST}) {
                Check.thrown("readValues: model before instruction", ARGUMENT, () -> x.readValues(model, wrong));
                Check.thrown("finalValues: model before location", ARGUMENT, () -> x.finalValues(model, wrong));
                Check.thrown("greatestBuffer: model before thread", ARGUMENT, () -> x.greatestBuffer(model, wrong));
                Check.thrown("isFenceNeeded: model before instruction", ARGUMENT, () -> x.isFenceNeeded(model, wrong));
                Check.thrown("matchesWith: model and gaps", ARGUMENT, () -> x.matchesWith(model, wrong));
            }
        }
        LitmusTester full = Check.defined("loc x 0;thread;store x 1;store x 1;fence;fence;fence;fence;fence;thread;fence;fence;fence;");
        Check.thrown("insertFence: state", STATE, () -> full.insertFence(0));
        Check.thrown("insertFence: gap before state", BOUNDS, () -> full.insertFence(1));
        Check.thrown("insertFence: gap before state", BOUNDS, () -> full.insertFence(-1));
        Check.thrown("readsFrom: instruction before explanation", BOUNDS, () -> x.readsFrom(4));
        Check.thrown("readsFrom: no explanation, and a store", ELEMENT, () -> x.readsFrom(0));
        Check.thrown("removeFence: instruction before fence", BOUNDS, () -> x.removeFence(4));
    }

    /** "A method that throws an exception changes nothing." Two objects get the same calls, one of them also those that throw. */
    private static void callsThatThrowChangeNothing() {
        LitmusTester plain = prepared();
        LitmusTester refused = prepared();
        callsThatThrow(refused);
        Check.equal("bufferLength", refused.bufferLength(), plain.bufferLength());
        Check.equal("the explanation", Check.steps(refused), Check.steps(plain));
        Check.equal("the explanation", refused.readsFrom(7), plain.readsFrom(7));
        Check.equal("the explanation", refused.writtenBy(1, 0), plain.writtenBy(1, 0));
        for (int i = 0; i < 8; i++) {
            Check.equal("the output", refused.outputByte(i), plain.outputByte(i));
        }
        Check.thrown("the output", ELEMENT, () -> refused.outputByte(8));
        for (int left = 2; left >= 0; left--) {
            Check.equal("written", Check.written(refused), Check.written(plain));
            Check.equal("outcomes", Check.outcomes(refused, 1), Check.outcomes(plain, 1));
            Check.equal("repairingFences", refused.repairingFences(1), plain.repairingFences(1));
            Check.equal("what can be undone", refused.undo(), left - 1);
            Check.equal("what can be undone", plain.undo(), left - 1);
        }
        Check.equal("the buffer", refused.define(), 0);
        Check.equal("the buffer", Check.written(refused), "loc q 2;");
    }

    /** A full program with 2 changes, an explanation, an output, and a text in the buffer. */
    private static LitmusTester prepared() {
        LitmusTester x = Check.defined("loc x 3;");
        x.write();
        Check.define(x, XY + "thread;store x 1;load r0 y;fence;fence;thread;store y 1;load r0 x;fence;fence;");
        x.insertFence(0);
        x.insertFence(0);
        Check.equal("explain", x.explain(1, 69), 12);
        Check.put(x, "loc q 2;");
        return x;
    }

    private static void callsThatThrow(LitmusTester x) {
        Check.thrown("instruction", BOUNDS, () -> x.instruction(10, 0));
        Check.thrown("outputByte", ELEMENT, () -> x.outputByte(8));
        for (int none : NO_MODELS) {
            Check.thrown("outcomeCount", ARGUMENT, () -> x.outcomeCount(none));
            Check.thrown("outcome", ARGUMENT, () -> x.outcome(none, 0));
            Check.thrown("hasOutcome", ARGUMENT, () -> x.hasOutcome(none, 5));
            Check.thrown("extraOutcomes", ARGUMENT, () -> x.extraOutcomes(none, 0));
            Check.thrown("matchCount", ARGUMENT, () -> x.matchCount(none));
            Check.thrown("firstMatch", ARGUMENT, () -> x.firstMatch(none));
            Check.thrown("stateCount", ARGUMENT, () -> x.stateCount(none));
            Check.thrown("executionCount", ARGUMENT, () -> x.executionCount(none));
            Check.thrown("executionsWith", ARGUMENT, () -> x.executionsWith(none, 69));
            Check.thrown("matchesWith", ARGUMENT, () -> x.matchesWith(none, 0));
            Check.thrown("fewestFences", ARGUMENT, () -> x.fewestFences(none));
            Check.thrown("repairingFences", ARGUMENT, () -> x.repairingFences(none));
            Check.thrown("explain", ARGUMENT, () -> x.explain(none, 69));
        }
        Check.thrown("readValues", ELEMENT, () -> x.readValues(0, 0));
        Check.thrown("readValues", BOUNDS, () -> x.readValues(0, 10));
        Check.thrown("finalValues", BOUNDS, () -> x.finalValues(0, 2));
        Check.thrown("greatestBuffer", BOUNDS, () -> x.greatestBuffer(0, 2));
        Check.thrown("isRace", BOUNDS, () -> x.isRace(0, 10));
        Check.thrown("matchesWith", ARGUMENT, () -> x.matchesWith(0, 1));
        Check.thrown("isFenceNeeded", BOUNDS, () -> x.isFenceNeeded(1, 10));
        Check.thrown("isFenceNeeded", ELEMENT, () -> x.isFenceNeeded(1, 0));
        Check.thrown("insertFence", BOUNDS, () -> x.insertFence(0));
        Check.thrown("removeFence", BOUNDS, () -> x.removeFence(10));
        Check.thrown("removeFence", ELEMENT, () -> x.removeFence(0));
        Check.thrown("readsFrom", BOUNDS, () -> x.readsFrom(10));
        Check.thrown("readsFrom", ELEMENT, () -> x.readsFrom(0));
        Check.thrown("writtenBy", BOUNDS, () -> x.writtenBy(2, 0));
    }
}
