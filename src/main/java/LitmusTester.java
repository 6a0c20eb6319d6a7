import java.util.Arrays;
import java.util.NoSuchElementException;

/**
 * Executes small concurrent programs exhaustively under sequential consistency and under two models
 * with store buffers, and answers questions about everything that can come out of them.
 */
public final class LitmusTester {
    public static final int NONE = -1;

    private static final int MAX_TEXT = 600;
    private static final int BYTES_APPENDED = 20;
    private static final int MAX_OUTPUT = 320;

    private static final int MAX_LOCATIONS = 3;
    private static final int MAX_THREADS = 4;
    private static final int REGISTERS = 2;
    private static final int MAX_VALUE = 3;
    private static final int VALUE_BITS = 2;
    private static final int MAX_DIGITS = 2;
    private static final int MAX_NAME = 8;
    private static final int LETTER_BITS = 5;

    private static final int MAX_INSTRUCTIONS = 10;
    private static final int MAX_ACCESSES = 8;
    private static final int MAX_IN_THREAD = 7;
    private static final int MAX_ACCESSES_IN_THREAD = 4;
    // 8 accesses fill at least 2 threads, and the first access of a thread has no gap before it.
    private static final int MAX_GAPS = 6;
    private static final int MAX_CHANGES = 8;
    // Every store makes a second step when it is committed.
    private static final int MAX_STEPS = MAX_INSTRUCTIONS + MAX_ACCESSES;
    private static final int STEPS_OF_A_THREAD = 10;

    private static final int MAX_UNITS = 16;
    private static final int MAX_NESTING = 4;
    // 16 units are joined by at most 15 operators.
    private static final int MAX_CONDITION = 2 * MAX_UNITS;

    private static final int STORE = 0;
    private static final int LOAD = 1;
    private static final int SWAP = 2;
    private static final int FENCE = 3;

    private static final int THREAD = 0;
    private static final int KIND = 1;
    private static final int LOCATION = 2;
    private static final int TARGET = 3;
    private static final int CONSTANT = 4;
    private static final int SOURCE = 5;
    private static final int PROPERTIES = 6;

    private static final int MODELS = 3;
    private static final int SEQUENTIAL = 0;
    private static final int FIRST_IN_FIRST_OUT = 1;

    private static final int NOT_ALLOWED = 1;
    private static final int TOO_GREAT = 2;
    private static final int TAKEN_ALREADY = 3;
    private static final int UNKNOWN = 4;
    private static final int TOO_MANY = 5;
    private static final int KINDS_OF_ERROR = 8;

    private static final Sign[] SIGNS = Sign.values();

    private final byte[] text = new byte[MAX_TEXT];
    private int textLength = 0;
    private final Output output = new Output();
    private final Program program = new Program();
    private final Program draft = new Program();
    private final Parser parser = new Parser(text, draft);
    private final Explorer explorer = new Explorer(program);
    private final Findings sequential = new Findings();
    private final Findings firstInFirstOut = new Findings();
    private final Findings reordered = new Findings();
    private final Changes changes = new Changes();
    private final Explanation explanation = new Explanation(program);

    public LitmusTester() {
    }

    // ---- program

    public int append(int a, int b, int c, int d, int e) {
        if (textLength > MAX_TEXT - BYTES_APPENDED) {
            return NONE;
        }
        putFourBytes(a);
        putFourBytes(b);
        putFourBytes(c);
        putFourBytes(d);
        putFourBytes(e);
        return textLength;
    }

    private void putFourBytes(int four) {
        for (int shift = 24; shift >= 0; shift -= 8) {
            if (textLength >= 0 && textLength < text.length) {
                text[textLength] = (byte) (four >>> shift);
                textLength++;
            }
        }
    }

    public boolean truncate(int length) {
        if (length < 0 || length > textLength) {
            return false;
        }
        textLength = length;
        return true;
    }

    public int bufferLength() {
        return textLength;
    }

    public int define() {
        int length = textLength;
        textLength = 0;
        int error = parser.parse(length);
        if (error != 0) {
            return -error;
        }
        program.copyFrom(draft);
        changes.clear();
        forgetWhatWasFound();
        return program.size();
    }

    private void forgetWhatWasFound() {
        sequential.forget();
        firstInFirstOut.forget();
        reordered.forget();
        explanation.forget();
    }

    public int threadCount() {
        return program.threads();
    }

    public int locationCount() {
        return program.locations();
    }

    public int instructionCount() {
        return program.size();
    }

    public int instruction(int instruction, int what) throws IndexOutOfBoundsException {
        requireInstruction(instruction);
        return program.property(instruction, what);
    }

    private void requireInstruction(int instruction) {
        if (instruction < 0 || instruction >= program.size()) {
            throw new IndexOutOfBoundsException("no such instruction");
        }
    }

    public int findLocation() {
        int length = textLength;
        textLength = 0;
        if (length > MAX_NAME) {
            return NONE;
        }
        long name = 0;
        for (int i = 0; i < length && i < text.length; i++) {
            if (!Tokens.isLetter(text[i])) {
                return NONE;
            }
            name = Tokens.withLetter(name, text[i]);
        }
        return program.locationNamed(name);
    }

    public int write() {
        output.clear();
        for (int location = 0; location < program.locations(); location++) {
            output.putDeclaration(program, location);
        }
        int next = 0;
        for (int thread = 0; thread < program.threads(); thread++) {
            output.putLine("thread");
            int end = next + program.sizeOf(thread);
            for (; next < end; next++) {
                output.putInstruction(program, next);
            }
        }
        return output.length();
    }

    public int outputByte(int index) throws NoSuchElementException {
        if (index < 0 || index >= output.length()) {
            throw new NoSuchElementException("no such byte");
        }
        return output.byteAt(index);
    }

    // ---- outcomes

    private void requireModel(int model) {
        if (model < 0 || model >= MODELS) {
            throw new IllegalArgumentException("no such model");
        }
    }

    private Findings kept(int model) {
        return model == SEQUENTIAL ? sequential : model == FIRST_IN_FIRST_OUT ? firstInFirstOut : reordered;
    }

    /** The findings are made at the first question about them. */
    private Findings findings(int model) {
        Findings found = kept(model);
        if (!found.isKnown()) {
            explorer.explore(model, program.waits());
            explorer.report(found);
        }
        return found;
    }

    public int outcomeCount(int model) throws IllegalArgumentException {
        requireModel(model);
        return findings(model).size();
    }

    public int outcome(int model, int index) throws IllegalArgumentException {
        requireModel(model);
        return findings(model).codeAt(index);
    }

    public boolean hasOutcome(int model, int code) throws IllegalArgumentException {
        requireModel(model);
        return findings(model).placeOf(code) != NONE;
    }

    public int extraOutcomes(int model, int other) throws IllegalArgumentException {
        requireModel(model);
        requireModel(other);
        Findings first = findings(model);
        Findings second = findings(other);
        int extra = 0;
        for (int index = 0; index < first.size(); index++) {
            if (second.placeOf(first.codeAt(index)) == NONE) {
                extra++;
            }
        }
        return extra;
    }

    public boolean fulfils(int code) {
        return code >= 0 && code >> program.codeBits() == 0 && program.isFulfilledBy(code);
    }

    public int matchCount(int model) throws IllegalArgumentException {
        requireModel(model);
        Findings found = findings(model);
        int matches = 0;
        for (int index = 0; index < found.size(); index++) {
            if (program.isFulfilledBy(found.codeAt(index))) {
                matches++;
            }
        }
        return matches;
    }

    public int firstMatch(int model) throws IllegalArgumentException {
        requireModel(model);
        Findings found = findings(model);
        for (int index = 0; index < found.size(); index++) {
            if (program.isFulfilledBy(found.codeAt(index))) {
                return found.codeAt(index);
            }
        }
        return NONE;
    }

    public int stateCount(int model) throws IllegalArgumentException {
        requireModel(model);
        return findings(model).states();
    }

    public long executionCount(int model) throws IllegalArgumentException {
        requireModel(model);
        Findings found = findings(model);
        long executions = 0;
        for (int index = 0; index < found.size(); index++) {
            executions += found.executionsAt(index);
        }
        return executions;
    }

    public long executionsWith(int model, int code) throws IllegalArgumentException {
        requireModel(model);
        Findings found = findings(model);
        return found.executionsAt(found.placeOf(code));
    }

    public int readValues(int model, int instruction)
            throws IllegalArgumentException, IndexOutOfBoundsException, NoSuchElementException {
        requireModel(model);
        requireInstruction(instruction);
        int target = program.property(instruction, TARGET);
        if (target == NONE) {
            throw new NoSuchElementException("neither a load nor a swap");
        }
        // No other instruction changes this register, so that what is read stands in the outcome.
        return findings(model).valuesAt(program.registerShift(program.property(instruction, THREAD), target));
    }

    public int finalValues(int model, int location) throws IllegalArgumentException, IndexOutOfBoundsException {
        requireModel(model);
        requireLocation(location);
        return findings(model).valuesAt(program.locationShift(location));
    }

    private void requireLocation(int location) {
        if (location < 0 || location >= program.locations()) {
            throw new IndexOutOfBoundsException("no such location");
        }
    }

    public int greatestBuffer(int model, int thread) throws IllegalArgumentException, IndexOutOfBoundsException {
        requireModel(model);
        if (thread < 0 || thread >= program.threads()) {
            throw new IndexOutOfBoundsException("no such thread");
        }
        return model == SEQUENTIAL ? 0 : program.mostStoresBuffered(thread);
    }

    // ---- races

    public boolean isRace(int first, int second) throws IndexOutOfBoundsException {
        requireInstruction(first);
        requireInstruction(second);
        return program.isRacing(first, second);
    }

    public int raceCount() {
        int races = 0;
        for (int first = 0; first < program.size(); first++) {
            for (int second = first + 1; second < program.size(); second++) {
                if (program.isRacing(first, second)) {
                    races++;
                }
            }
        }
        return races;
    }

    // ---- fences

    public int gapCount() {
        return program.gaps();
    }

    public int gapBefore(int gap) {
        return program.placeOfGap(gap);
    }

    public int matchesWith(int model, int gaps) throws IllegalArgumentException {
        requireModel(model);
        if (gaps < 0 || gaps >> program.gaps() != 0) {
            throw new IllegalArgumentException("no such gap");
        }
        tryFences(model, gaps);
        return kept(model).fencedMatches(gaps);
    }

    private void tryFences(int model, int gaps) {
        Findings found = kept(model);
        if (found.fencedOutcomes(gaps) == NONE) {
            explorer.explore(model, program.waitsWith(gaps));
            found.keepFenced(gaps, explorer.outcomes(), explorer.matches());
        }
    }

    public int fewestFences(int model) throws IllegalArgumentException {
        requireModel(model);
        // Fences take away no outcome of model 0: if one of these matches, no set of gaps forbids it.
        return matchCount(SEQUENTIAL) > 0 ? NONE : smallestSet(model, false);
    }

    public int repairingFences(int model) throws IllegalArgumentException {
        requireModel(model);
        return smallestSet(model, true);
    }

    private int smallestSet(int model, boolean repairing) {
        // Committing every store at once is what model 0 does, so that each model has all outcomes of
        // model 0, whatever fences there are: as many outcomes are the same outcomes.
        int outcomes = findings(SEQUENTIAL).size();
        int sets = 1 << program.gaps();
        for (int size = 0; size <= MAX_GAPS; size++) {
            for (int set = 0; set < sets; set++) {
                if (Integer.bitCount(set) == size) {
                    tryFences(model, set);
                    Findings found = kept(model);
                    if (repairing ? found.fencedOutcomes(set) == outcomes : found.fencedMatches(set) == 0) {
                        return set;
                    }
                }
            }
        }
        return NONE;
    }

    public boolean isFenceNeeded(int model, int instruction)
            throws IllegalArgumentException, IndexOutOfBoundsException, NoSuchElementException {
        requireModel(model);
        requireInstruction(instruction);
        requireFence(instruction);
        int outcomes = findings(model).size();
        explorer.explore(model, program.waits() & ~(1 << instruction));
        // A fence only takes outcomes away: as many outcomes are the same outcomes.
        return explorer.outcomes() != outcomes;
    }

    private void requireFence(int instruction) {
        if (program.property(instruction, KIND) != FENCE) {
            throw new NoSuchElementException("not a fence");
        }
    }

    public int insertFence(int gap) throws IndexOutOfBoundsException, IllegalStateException {
        int place = program.placeOfGap(gap);
        if (place == NONE) {
            throw new IndexOutOfBoundsException("no such gap");
        }
        int thread = program.property(place, THREAD);
        if (program.sizeOf(thread) >= MAX_IN_THREAD || program.size() >= MAX_INSTRUCTIONS) {
            throw new IllegalStateException("no room for a fence");
        }
        program.putFence(place, thread);
        changes.add(Changes.inserted(place));
        forgetWhatWasFound();
        return place;
    }

    public int removeFence(int instruction) throws IndexOutOfBoundsException, NoSuchElementException {
        requireInstruction(instruction);
        requireFence(instruction);
        changes.add(Changes.removed(instruction, program.property(instruction, THREAD)));
        program.dropInstruction(instruction);
        forgetWhatWasFound();
        return program.size();
    }

    public int undo() {
        int change = changes.takeLatest();
        if (change == NONE) {
            return NONE;
        }
        if (Changes.isInsertion(change)) {
            program.dropInstruction(Changes.place(change));
        } else {
            program.putFence(Changes.place(change), Changes.thread(change));
        }
        forgetWhatWasFound();
        return changes.size();
    }

    // ---- explanation

    public int explain(int model, int code) throws IllegalArgumentException {
        requireModel(model);
        boolean found = findings(model).placeOf(code) != NONE && explorer.findFirst(model, code, explanation);
        return found ? explanation.size() : NONE;
    }

    public int step(int index) {
        return explanation.stepAt(index);
    }

    public int readsFrom(int instruction) throws IndexOutOfBoundsException, NoSuchElementException {
        requireInstruction(instruction);
        if (program.property(instruction, TARGET) == NONE || !explanation.isPresent()) {
            throw new NoSuchElementException("nothing read that is explained");
        }
        return explanation.originOf(instruction);
    }

    public int writtenBy(int location, int index) throws IndexOutOfBoundsException {
        requireLocation(location);
        return explanation.writerAt(location, index);
    }

    /** What a token can be; a text belongs to the signs that are always written alike. */
    private enum Sign {
        END(""), INVALID(""), REGISTER(""), NAME(""), NUMBER(""),
        LOC("loc"), THREAD("thread"), STORE("store"), LOAD("load"), SWAP("swap"), FENCE("fence"),
        EXISTS("exists"), OR("or"), AND("and"), NOT("not"),
        SEMICOLON(";"), COLON(":"), EQUAL("="), LESS("<"), OPEN("("), CLOSE(")");

        private final String text;

        Sign(String text) {
            this.text = text;
        }
    }

    /** Splits a text into tokens, and stands on one of them. */
    private static final class Tokens {
        private final byte[] text;
        // One more than there are bytes, because the end counts as a token.
        private final Sign[] signs = new Sign[MAX_TEXT + 1];
        private final int[] starts = new int[MAX_TEXT + 1];
        private final long[] values = new long[MAX_TEXT + 1];
        private int length = 0;
        private int position = 0;
        private int current = 0;

        Tokens(byte[] text) {
            this.text = text;
        }

        /** Splits the first bytes of the text, and stands on the first token. */
        void split(int newLength) {
            length = Math.min(newLength, text.length);
            position = 0;
            current = 0;
            boolean ended = false;
            for (int token = 0; token <= MAX_TEXT && !ended; token++) {
                skipBlanks();
                ended = position >= length;
                starts[token] = position;
                values[token] = NONE;
                signs[token] = ended ? Sign.END : scanToken(token);
            }
        }

        private void skipBlanks() {
            while (position < length && (text[position] == ' ' || text[position] == '\n')) {
                position++;
            }
        }

        private Sign scanToken(int token) {
            int start = position;
            if (position < length && isLetter(text[position])) {
                return scanWord(token);
            }
            if (position < length && isDigit(text[position])) {
                return scanNumber(token);
            }
            position++;
            return fixedSign(start, Sign.INVALID);
        }

        private Sign scanWord(int token) {
            int start = position;
            long name = 0;
            int digit = NONE;
            for (; position < length && (isLetter(text[position]) || isDigit(text[position])); position++) {
                if (isLetter(text[position])) {
                    name = withLetter(name, text[position]);
                } else {
                    digit = text[position] - '0';
                }
            }
            int bytes = position - start;
            boolean register = bytes == 2 && name == withLetter(0, 'r') && digit < REGISTERS;
            if (bytes > MAX_NAME || digit != NONE && !register) {
                return Sign.INVALID;
            }
            setValue(token, register ? digit : name);
            return register ? Sign.REGISTER : fixedSign(start, Sign.NAME);
        }

        private Sign scanNumber(int token) {
            int start = position;
            int number = 0;
            for (; position < length && isDigit(text[position]); position++) {
                number = position - start < MAX_DIGITS ? 10 * number + text[position] - '0' : number;
            }
            setValue(token, number);
            return position - start > MAX_DIGITS ? Sign.INVALID : Sign.NUMBER;
        }

        private void setValue(int token, long value) {
            if (token >= 0 && token < values.length) {
                values[token] = value;
            }
        }

        /** The sign whose text stands between the start and the position, if there is one. */
        private Sign fixedSign(int start, Sign otherwise) {
            for (Sign candidate : SIGNS) {
                boolean same = candidate.text.length() == position - start;
                for (int i = 0; same && i < candidate.text.length() && start + i < length; i++) {
                    same = candidate.text.charAt(i) == text[start + i];
                }
                if (same) {
                    return candidate;
                }
            }
            return otherwise;
        }

        static boolean isLetter(int sign) {
            return sign >= 'a' && sign <= 'z';
        }

        private static boolean isDigit(int sign) {
            return sign >= '0' && sign <= '9';
        }

        /** Names are compared as numbers, because eight letters fit into a long. */
        static long withLetter(long name, int letter) {
            return name << LETTER_BITS | letter - 'a' + 1;
        }

        Sign sign() {
            Sign found = current <= MAX_TEXT ? signs[current] : Sign.END;
            return found == null ? Sign.END : found;
        }

        int start() {
            return current <= MAX_TEXT ? starts[current] : length;
        }

        /** The packed letters of a name. */
        long name() {
            return current <= MAX_TEXT ? values[current] : NONE;
        }

        /** The value of a number, or the number of a register. */
        int number() {
            return (int) name();
        }

        void advance() {
            if (sign() != Sign.END) {
                current++;
            }
        }
    }

    /** Reads a text into a program, up to the first error. */
    private static final class Parser {
        private final Tokens tokens;
        private final Program program;
        private int error = 0;
        private int units = 0;
        private int location = NONE;
        private int target = NONE;
        private int constant = NONE;
        private int source = NONE;

        Parser(byte[] text, Program program) {
            this.tokens = new Tokens(text);
            this.program = program;
        }

        /** Returns 8 * offset + kind of the first error; 0 if there is none. */
        int parse(int length) {
            error = 0;
            units = 0;
            program.clear();
            tokens.split(length);
            boolean read = true;
            for (int line = 0; line <= MAX_LOCATIONS && read && tokens.sign() == Sign.LOC; line++) {
                read = readDeclaration();
            }
            for (int line = 0; line <= MAX_THREADS && read && tokens.sign() == Sign.THREAD; line++) {
                read = readThread();
            }
            if (read && tokens.sign() == Sign.EXISTS) {
                tokens.advance();
                read = readCondition(0) && expect(Sign.SEMICOLON);
            }
            if (read && tokens.sign() != Sign.END) {
                fail(NOT_ALLOWED);
            }
            return error;
        }

        private boolean fail(int kind) {
            error = KINDS_OF_ERROR * tokens.start() + kind;
            return false;
        }

        private boolean expect(Sign sign) {
            if (tokens.sign() != sign) {
                return fail(NOT_ALLOWED);
            }
            tokens.advance();
            return true;
        }

        private boolean readDeclaration() {
            if (program.locations() >= MAX_LOCATIONS) {
                return fail(TOO_MANY);
            }
            tokens.advance();
            if (tokens.sign() != Sign.NAME) {
                return fail(NOT_ALLOWED);
            }
            long name = tokens.name();
            if (program.locationNamed(name) != NONE) {
                return fail(TAKEN_ALREADY);
            }
            tokens.advance();
            if (!isValue()) {
                return false;
            }
            program.addLocation(name, tokens.number());
            tokens.advance();
            return expect(Sign.SEMICOLON);
        }

        /** Whether the token is a number that is not too great for a value. */
        private boolean isValue() {
            if (tokens.sign() != Sign.NUMBER) {
                return fail(NOT_ALLOWED);
            }
            return tokens.number() <= MAX_VALUE || fail(TOO_GREAT);
        }

        private boolean readThread() {
            int thread = program.threads();
            if (thread >= MAX_THREADS) {
                return fail(TOO_MANY);
            }
            tokens.advance();
            program.addThread();
            boolean read = expect(Sign.SEMICOLON);
            for (int line = 0; line <= MAX_IN_THREAD && read && kindOfInstruction() != NONE; line++) {
                read = readInstruction(thread, kindOfInstruction());
            }
            return read;
        }

        private int kindOfInstruction() {
            Sign sign = tokens.sign();
            if (sign == Sign.STORE) {
                return STORE;
            }
            if (sign == Sign.LOAD) {
                return LOAD;
            }
            if (sign == Sign.SWAP) {
                return SWAP;
            }
            return sign == Sign.FENCE ? FENCE : NONE;
        }

        private boolean readInstruction(int thread, int kind) {
            if (isFull(thread, kind)) {
                return fail(TOO_MANY);
            }
            location = NONE;
            target = NONE;
            constant = NONE;
            source = NONE;
            tokens.advance();
            boolean reads = kind == LOAD || kind == SWAP;
            boolean writes = kind == STORE || kind == SWAP;
            boolean read = (!reads || readTarget(thread))
                    && (kind == FENCE || readLocation())
                    && (!writes || readValue(thread))
                    && expect(Sign.SEMICOLON);
            if (read) {
                program.addInstruction(kind, location, target, constant, source);
            }
            return read;
        }

        private boolean isFull(int thread, int kind) {
            if (program.sizeOf(thread) >= MAX_IN_THREAD || program.size() >= MAX_INSTRUCTIONS) {
                return true;
            }
            return kind != FENCE
                    && (program.accessesOf(thread) >= MAX_ACCESSES_IN_THREAD || program.accesses() >= MAX_ACCESSES);
        }

        private boolean readLocation() {
            if (tokens.sign() != Sign.NAME) {
                return fail(NOT_ALLOWED);
            }
            location = program.locationNamed(tokens.name());
            if (location == NONE) {
                return fail(UNKNOWN);
            }
            tokens.advance();
            return true;
        }

        private boolean readTarget(int thread) {
            if (tokens.sign() != Sign.REGISTER) {
                return fail(NOT_ALLOWED);
            }
            target = tokens.number();
            if (program.isTarget(thread, target)) {
                return fail(TAKEN_ALREADY);
            }
            tokens.advance();
            return true;
        }

        private boolean readValue(int thread) {
            if (tokens.sign() == Sign.REGISTER) {
                source = tokens.number();
                if (!program.isTarget(thread, source)) {
                    return fail(UNKNOWN);
                }
            } else if (isValue()) {
                constant = tokens.number();
            } else {
                return false;
            }
            tokens.advance();
            return true;
        }

        /** The limits of the units end the loops and the recursion of the condition. */
        private boolean readCondition(int depth) {
            boolean more = true;
            // One round more than there may be units, because the last round reports the unit too many.
            for (int ors = 0; ors <= MAX_UNITS && more; ors++) {
                for (int ands = 0; ands <= MAX_UNITS && more; ands++) {
                    if (!readUnit(depth)) {
                        return false;
                    }
                    if (ands > 0) {
                        program.addToCondition(Program.AND);
                    }
                    more = isPassed(Sign.AND);
                }
                if (ors > 0) {
                    program.addToCondition(Program.OR);
                }
                more = isPassed(Sign.OR);
            }
            return true;
        }

        private boolean isPassed(Sign sign) {
            boolean passed = tokens.sign() == sign;
            if (passed) {
                tokens.advance();
            }
            return passed;
        }

        private boolean readUnit(int depth) {
            Sign sign = tokens.sign();
            if (sign != Sign.NOT && sign != Sign.OPEN && sign != Sign.NUMBER && sign != Sign.NAME) {
                return fail(NOT_ALLOWED);
            }
            if (sign == Sign.NUMBER && tokens.number() >= program.threads()) {
                return fail(TOO_GREAT);
            }
            if (sign == Sign.NAME && program.locationNamed(tokens.name()) == NONE) {
                return fail(UNKNOWN);
            }
            if (depth > MAX_NESTING || units >= MAX_UNITS) {
                return fail(TOO_MANY);
            }
            units++;
            if (sign == Sign.NUMBER || sign == Sign.NAME) {
                return readComparison();
            }
            tokens.advance();
            return sign == Sign.NOT ? readNegated(depth + 1) : readCondition(depth + 1) && expect(Sign.CLOSE);
        }

        private boolean readNegated(int depth) {
            boolean read = readUnit(depth);
            program.addToCondition(Program.NOT);
            return read;
        }

        private boolean readComparison() {
            int shift = 0;
            if (tokens.sign() == Sign.NAME) {
                shift = program.locationShift(program.locationNamed(tokens.name()));
            } else {
                int thread = tokens.number();
                tokens.advance();
                if (!expect(Sign.COLON) || !isTargetOf(thread)) {
                    return false;
                }
                shift = program.registerShift(thread, tokens.number());
            }
            tokens.advance();
            boolean less = tokens.sign() == Sign.LESS;
            if (!expect(less ? Sign.LESS : Sign.EQUAL) || !isValue()) {
                return false;
            }
            program.addToCondition(Program.comparison(shift, less, tokens.number()));
            tokens.advance();
            return true;
        }

        private boolean isTargetOf(int thread) {
            if (tokens.sign() != Sign.REGISTER) {
                return fail(NOT_ALLOWED);
            }
            return program.isTarget(thread, tokens.number()) || fail(UNKNOWN);
        }
    }

    /** Locations, threads, instructions and the condition. */
    private static final class Program {
        // The condition is kept in postfix order; comparisons are the numbers from 0.
        static final int NOT = -1;
        static final int AND = -2;
        static final int OR = -3;

        private final long[] names = new long[MAX_LOCATIONS];
        private final int[] initials = new int[MAX_LOCATIONS];
        private final int[] cells = new int[MAX_INSTRUCTIONS * PROPERTIES];
        private final int[] condition = new int[MAX_CONDITION];
        private int locations = 0;
        private int threads = 0;
        private int size = 0;
        private int conditionSize = 0;

        void clear() {
            locations = 0;
            threads = 0;
            size = 0;
            conditionSize = 0;
        }

        void copyFrom(Program other) {
            System.arraycopy(other.names, 0, names, 0, MAX_LOCATIONS);
            System.arraycopy(other.initials, 0, initials, 0, MAX_LOCATIONS);
            System.arraycopy(other.cells, 0, cells, 0, MAX_INSTRUCTIONS * PROPERTIES);
            System.arraycopy(other.condition, 0, condition, 0, MAX_CONDITION);
            locations = other.locations;
            threads = other.threads;
            size = other.size;
            conditionSize = other.conditionSize;
        }

        int locations() {
            return locations;
        }

        int threads() {
            return threads;
        }

        int size() {
            return size;
        }

        void addLocation(long name, int initial) {
            if (locations < MAX_LOCATIONS) {
                names[locations] = name;
                initials[locations] = initial;
                locations++;
            }
        }

        int locationNamed(long name) {
            for (int location = 0; location < locations && location < MAX_LOCATIONS; location++) {
                if (names[location] == name) {
                    return location;
                }
            }
            return NONE;
        }

        long nameOf(int location) {
            return location >= 0 && location < MAX_LOCATIONS ? names[location] : 0;
        }

        int initialOf(int location) {
            return location >= 0 && location < MAX_LOCATIONS ? initials[location] : 0;
        }

        void addThread() {
            if (threads < MAX_THREADS) {
                threads++;
            }
        }

        /** Adds an instruction to the last thread. */
        void addInstruction(int kind, int location, int target, int constant, int source) {
            if (size < MAX_INSTRUCTIONS) {
                size++;
                setProperty(size - 1, THREAD, threads - 1);
                setProperty(size - 1, KIND, kind);
                setProperty(size - 1, LOCATION, location);
                setProperty(size - 1, TARGET, target);
                setProperty(size - 1, CONSTANT, constant);
                setProperty(size - 1, SOURCE, source);
            }
        }

        private void setProperty(int instruction, int what, int value) {
            int at = instruction * PROPERTIES + what;
            if (at >= 0 && at < cells.length) {
                cells[at] = value;
            }
        }

        int property(int instruction, int what) {
            boolean known = instruction >= 0 && instruction < size && what >= 0 && what < PROPERTIES;
            int at = known ? instruction * PROPERTIES + what : 0;
            return known && at < cells.length ? cells[at] : NONE;
        }

        void putFence(int place, int thread) {
            if (size < MAX_INSTRUCTIONS && place >= 0 && place <= size) {
                int from = place * PROPERTIES;
                System.arraycopy(cells, from, cells, from + PROPERTIES, (size - place) * PROPERTIES);
                size++;
                setProperty(place, THREAD, thread);
                setProperty(place, KIND, FENCE);
                setProperty(place, LOCATION, NONE);
                setProperty(place, TARGET, NONE);
                setProperty(place, CONSTANT, NONE);
                setProperty(place, SOURCE, NONE);
            }
        }

        void dropInstruction(int place) {
            if (place >= 0 && place < size && size <= MAX_INSTRUCTIONS) {
                int from = place * PROPERTIES;
                System.arraycopy(cells, from + PROPERTIES, cells, from, (size - place - 1) * PROPERTIES);
                size--;
            }
        }

        int sizeOf(int thread) {
            int found = 0;
            for (int instruction = 0; instruction < size; instruction++) {
                if (property(instruction, THREAD) == thread) {
                    found++;
                }
            }
            return found;
        }

        int accessesOf(int thread) {
            int found = 0;
            for (int instruction = 0; instruction < size; instruction++) {
                if (property(instruction, THREAD) == thread && property(instruction, KIND) != FENCE) {
                    found++;
                }
            }
            return found;
        }

        int accesses() {
            int found = 0;
            for (int thread = 0; thread < threads; thread++) {
                found += accessesOf(thread);
            }
            return found;
        }

        boolean isTarget(int thread, int register) {
            for (int instruction = 0; instruction < size; instruction++) {
                if (property(instruction, THREAD) == thread && property(instruction, TARGET) == register) {
                    return true;
                }
            }
            return false;
        }

        int codeBits() {
            return VALUE_BITS * (REGISTERS * threads + locations);
        }

        /** The lowest bit of a register's digit in a code. */
        int registerShift(int thread, int register) {
            return codeBits() - VALUE_BITS * (REGISTERS * thread + register + 1);
        }

        /** The lowest bit of a location's digit in a code. */
        int locationShift(int location) {
            return VALUE_BITS * (locations - 1 - location);
        }

        static int comparison(int shift, boolean less, int number) {
            return shift << 3 | (less ? 4 : 0) | number;
        }

        void addToCondition(int unit) {
            if (conditionSize < MAX_CONDITION) {
                condition[conditionSize] = unit;
                conditionSize++;
            }
        }

        boolean isFulfilledBy(int code) {
            // The bits of an int serve as the stack, the lowest one being its top.
            int stack = 1;
            for (int i = 0; i < conditionSize && i < MAX_CONDITION; i++) {
                int unit = condition[i];
                if (unit == NOT) {
                    stack ^= 1;
                } else if (unit == AND) {
                    stack = stack >> 1 & (stack | ~1);
                } else if (unit == OR) {
                    stack = stack >> 1 | stack & 1;
                } else {
                    int value = code >> (unit >> 3) & MAX_VALUE;
                    int number = unit & MAX_VALUE;
                    boolean holds = (unit & 4) != 0 ? value < number : value == number;
                    stack = stack << 1 | (holds ? 1 : 0);
                }
            }
            return (stack & 1) != 0;
        }

        /** The instructions that are executed only while the buffer of their thread is empty. */
        int waits() {
            int waiting = 0;
            for (int instruction = 0; instruction < size; instruction++) {
                int kind = property(instruction, KIND);
                if (kind == FENCE || kind == SWAP) {
                    waiting |= 1 << instruction;
                }
            }
            return waiting;
        }

        /** The same with fences in gaps: the instruction behind a fence finds an empty buffer. */
        int waitsWith(int gaps) {
            int waiting = waits();
            for (int gap = 0; gap < MAX_GAPS; gap++) {
                int place = placeOfGap(gap);
                if ((gaps >> gap & 1) != 0 && place != NONE) {
                    waiting |= 1 << place;
                }
            }
            return waiting;
        }

        private boolean isGapBefore(int instruction) {
            return instruction > 0
                    && property(instruction - 1, THREAD) == property(instruction, THREAD)
                    && property(instruction - 1, KIND) != FENCE
                    && property(instruction, KIND) != FENCE;
        }

        int gaps() {
            int found = 0;
            for (int instruction = 0; instruction < size; instruction++) {
                if (isGapBefore(instruction)) {
                    found++;
                }
            }
            return found;
        }

        int placeOfGap(int gap) {
            int found = 0;
            for (int instruction = 0; instruction < size; instruction++) {
                if (isGapBefore(instruction)) {
                    if (found == gap) {
                        return instruction;
                    }
                    found++;
                }
            }
            return NONE;
        }

        /** Commits can always be put off until a fence or a swap needs an empty buffer. */
        int mostStoresBuffered(int thread) {
            int most = 0;
            int buffered = 0;
            for (int instruction = 0; instruction < size; instruction++) {
                if (property(instruction, THREAD) == thread) {
                    int kind = property(instruction, KIND);
                    buffered = kind == FENCE || kind == SWAP ? 0 : kind == STORE ? buffered + 1 : buffered;
                    most = Math.max(most, buffered);
                }
            }
            return most;
        }

        /**
         * In model 0 no instruction ever waits and there are no jumps, so that any two instructions of
         * different threads are the next ones in some reachable state: all that conflict race.
         */
        boolean isRacing(int first, int second) {
            int kind = property(first, KIND);
            int otherKind = property(second, KIND);
            boolean sameLocation = property(first, LOCATION) == property(second, LOCATION);
            if (kind == FENCE || otherKind == FENCE || !sameLocation) {
                return false;
            }
            boolean written = kind != LOAD || otherKind != LOAD;
            boolean bothSwaps = kind == SWAP && otherKind == SWAP;
            return written && !bothSwaps && property(first, THREAD) != property(second, THREAD);
        }
    }

    /** The text that write() makes. */
    private static final class Output {
        private final byte[] bytes = new byte[MAX_OUTPUT];
        private int length = 0;

        void clear() {
            length = 0;
        }

        int length() {
            return length;
        }

        int byteAt(int index) {
            return index >= 0 && index < bytes.length ? bytes[index] : NONE;
        }

        private void put(int sign) {
            if (length >= 0 && length < bytes.length) {
                bytes[length] = (byte) sign;
                length++;
            }
        }

        private void putText(String text) {
            for (int i = 0; i < text.length(); i++) {
                put(text.charAt(i));
            }
        }

        void putLine(String text) {
            putText(text);
            put(';');
        }

        private void putName(long name) {
            put(' ');
            for (int shift = LETTER_BITS * (MAX_NAME - 1); shift >= 0; shift -= LETTER_BITS) {
                int letter = (int) (name >> shift) & (1 << LETTER_BITS) - 1;
                if (letter != 0) {
                    put('a' + letter - 1);
                }
            }
        }

        private void putRegister(int register) {
            if (register != NONE) {
                putText(" r");
                put('0' + register);
            }
        }

        private void putNumber(int number) {
            if (number != NONE) {
                put(' ');
                put('0' + number);
            }
        }

        void putDeclaration(Program program, int location) {
            putText("loc");
            putName(program.nameOf(location));
            putNumber(program.initialOf(location));
            put(';');
        }

        void putInstruction(Program program, int instruction) {
            int kind = program.property(instruction, KIND);
            putText(kind == STORE ? "store" : kind == LOAD ? "load" : kind == SWAP ? "swap" : "fence");
            putRegister(program.property(instruction, TARGET));
            if (kind != FENCE) {
                putName(program.nameOf(program.property(instruction, LOCATION)));
            }
            putNumber(program.property(instruction, CONSTANT));
            putRegister(program.property(instruction, SOURCE));
            put(';');
        }
    }

    /** The latest changes; each is kept as the place and the thread of its fence. */
    private static final class Changes {
        private final int[] kept = new int[MAX_CHANGES];
        private int size = 0;

        static int inserted(int place) {
            return place << 3 | 4;
        }

        static int removed(int place, int thread) {
            return place << 3 | thread;
        }

        static boolean isInsertion(int change) {
            return (change & 4) != 0;
        }

        static int place(int change) {
            return change >> 3;
        }

        static int thread(int change) {
            return change & 3;
        }

        void clear() {
            size = 0;
        }

        int size() {
            return size;
        }

        void add(int change) {
            if (size == MAX_CHANGES) {
                System.arraycopy(kept, 1, kept, 0, MAX_CHANGES - 1);
                size--;
            }
            if (size >= 0 && size < MAX_CHANGES) {
                kept[size] = change;
                size++;
            }
        }

        int takeLatest() {
            if (size <= 0 || size > MAX_CHANGES) {
                return NONE;
            }
            size--;
            return kept[size];
        }
    }

    /**
     * Executes a program step by step. A state is packed into a long: its lowest bits are the code of
     * the registers and the memory, then follow a bit for each instruction that is a store which waits
     * in a buffer, and the number of executed instructions of each thread. A buffer needs no values:
     * they are constants, or stand in registers that do not change any more.
     */
    private static final class Machine {
        private static final int CODE_BITS = VALUE_BITS * (REGISTERS * MAX_THREADS + MAX_LOCATIONS);
        private static final int POSITION_BITS = 3;
        private static final int FIRST_POSITION = CODE_BITS + MAX_INSTRUCTIONS;

        private final Program program;
        private final int[] kinds = new int[MAX_INSTRUCTIONS];
        private final int[] locations = new int[MAX_INSTRUCTIONS];
        private final int[] locationShifts = new int[MAX_INSTRUCTIONS];
        private final int[] targetShifts = new int[MAX_INSTRUCTIONS];
        private final int[] sourceShifts = new int[MAX_INSTRUCTIONS];
        private final int[] constants = new int[MAX_INSTRUCTIONS];
        private final int[] firsts = new int[MAX_THREADS];
        private final int[] sizes = new int[MAX_THREADS];
        private final int[] storesOf = new int[MAX_THREADS];
        private final int[] storesTo = new int[MAX_LOCATIONS];
        private int model = SEQUENTIAL;
        private int waits = 0;
        private long start = 0;
        private long end = 0;

        Machine(Program program) {
            this.program = program;
        }

        void prepare(int newModel, int newWaits) {
            model = newModel;
            waits = newWaits;
            prepareLocations();
            prepareThreads();
            for (int i = 0; i < program.size(); i++) {
                prepareInstruction(i);
            }
        }

        private void prepareLocations() {
            start = 0;
            for (int location = 0; location < program.locations() && location < MAX_LOCATIONS; location++) {
                storesTo[location] = 0;
                start |= (long) program.initialOf(location) << program.locationShift(location);
            }
        }

        private void prepareThreads() {
            end = 0;
            int first = 0;
            for (int thread = 0; thread < program.threads() && thread < MAX_THREADS; thread++) {
                firsts[thread] = first;
                sizes[thread] = program.sizeOf(thread);
                storesOf[thread] = 0;
                first += sizes[thread];
                end |= (long) sizes[thread] << positionShift(thread);
            }
        }

        private void prepareInstruction(int i) {
            if (i < 0 || i >= MAX_INSTRUCTIONS) {
                return;
            }
            int thread = program.property(i, THREAD);
            int source = program.property(i, SOURCE);
            kinds[i] = program.property(i, KIND);
            locations[i] = program.property(i, LOCATION);
            constants[i] = program.property(i, CONSTANT);
            locationShifts[i] = program.locationShift(locations[i]);
            targetShifts[i] = program.registerShift(thread, program.property(i, TARGET));
            sourceShifts[i] = source == NONE ? NONE : program.registerShift(thread, source);
            boolean known = thread >= 0 && thread < MAX_THREADS && locations[i] >= 0 && locations[i] < MAX_LOCATIONS;
            if (kinds[i] == STORE && known) {
                storesOf[thread] |= 1 << i;
                storesTo[locations[i]] |= 1 << i;
            }
        }

        private static int positionShift(int thread) {
            return FIRST_POSITION + POSITION_BITS * thread;
        }

        long start() {
            return start;
        }

        int threads() {
            return program.threads();
        }

        /** Whether a store writes to the memory when it is executed. */
        boolean isUnbuffered() {
            return model == SEQUENTIAL;
        }

        /** In a final state all threads are at their end, and no store waits. */
        boolean isFinal(long state) {
            return state >> CODE_BITS == end >> CODE_BITS;
        }

        static int codeOf(long state) {
            return (int) state & (1 << CODE_BITS) - 1;
        }

        /** The stores of the thread that wait in its buffer. */
        private int waitingOf(long state, int thread) {
            boolean known = thread >= 0 && thread < MAX_THREADS;
            return known ? (int) (state >> CODE_BITS) & storesOf[thread] : 0;
        }

        private int waitingFor(long state, int thread, int location) {
            boolean known = location >= 0 && location < MAX_LOCATIONS;
            return known ? waitingOf(state, thread) & storesTo[location] : 0;
        }

        /** The instruction that the thread executes next; NONE at its end. */
        int next(long state, int thread) {
            if (thread < 0 || thread >= MAX_THREADS) {
                return NONE;
            }
            int position = (int) (state >> positionShift(thread)) & (1 << POSITION_BITS) - 1;
            return position < sizes[thread] ? firsts[thread] + position : NONE;
        }

        /** The store of the thread that is committed next to the location; NONE if there is none. */
        int committed(long state, int thread, int location) {
            int candidates = waitingFor(state, thread, location);
            int lowest = candidates & -candidates;
            int own = waitingOf(state, thread);
            boolean first = model != FIRST_IN_FIRST_OUT || lowest == (own & -own);
            return lowest != 0 && first ? Integer.bitCount(lowest - 1) : NONE;
        }

        /** The store from whose entry the thread reads the location; NONE if it reads the memory. */
        int forwarding(long state, int thread, int location) {
            int candidates = waitingFor(state, thread, location);
            for (int i = MAX_INSTRUCTIONS - 1; i >= 0; i--) {
                if ((candidates >> i & 1) != 0) {
                    return i;
                }
            }
            return NONE;
        }

        /** The parts of steps that can be tried: 0 is an execution, 1 + l a commit to location l. */
        int parts(long state, int thread) {
            return waitingOf(state, thread) == 0 ? 1 : 1 + program.locations();
        }

        /** The state after a step; NONE if the step is not possible. */
        long after(long state, int thread, int part) {
            int i = part == 0 ? next(state, thread) : committed(state, thread, part - 1);
            if (i < 0 || i >= MAX_INSTRUCTIONS) {
                return NONE;
            }
            if (part != 0) {
                return written(state ^ 1L << CODE_BITS + i, i, valueOf(state, i));
            }
            if ((waits >> i & 1) != 0 && waitingOf(state, thread) != 0) {
                return NONE;
            }
            long moved = state + (1L << positionShift(thread));
            switch (kinds[i]) {
                case STORE:
                    return model == SEQUENTIAL ? written(moved, i, valueOf(state, i)) : moved | 1L << CODE_BITS + i;
                case LOAD:
                    return withRead(moved, i, forwarding(state, thread, locations[i]));
                case SWAP:
                    // The value is taken from the older state, because the swap may change its register.
                    return written(withRead(moved, i, NONE), i, valueOf(state, i));
                default:
                    return moved;
            }
        }

        /** Whether the step read another value than the code has, for a register changes only once. */
        boolean isContradicted(long state, long after, int thread, int code) {
            int i = next(state, thread);
            boolean executed = i >= 0 && i < MAX_INSTRUCTIONS && next(after, thread) != i;
            boolean read = executed && (kinds[i] == LOAD || kinds[i] == SWAP);
            return read && ((after ^ code) >> targetShifts[i] & MAX_VALUE) != 0;
        }

        private long written(long state, int i, int value) {
            boolean known = i >= 0 && i < MAX_INSTRUCTIONS;
            return known ? withDigit(state, locationShifts[i], value) : state;
        }

        /** The state in which the target has the value of a store, or of the memory if there is none. */
        private long withRead(long state, int i, int store) {
            if (i < 0 || i >= MAX_INSTRUCTIONS) {
                return state;
            }
            int value = store == NONE ? (int) (state >> locationShifts[i]) & MAX_VALUE : valueOf(state, store);
            return withDigit(state, targetShifts[i], value);
        }

        /** The value that an instruction writes. */
        private int valueOf(long state, int i) {
            if (i < 0 || i >= MAX_INSTRUCTIONS) {
                return 0;
            }
            return sourceShifts[i] == NONE ? constants[i] : (int) (state >> sourceShifts[i]) & MAX_VALUE;
        }

        private static long withDigit(long state, int shift, int value) {
            return state & ~((long) MAX_VALUE << shift) | (long) value << shift;
        }
    }

    /** The states found, in the order in which they were found, each with a number of ways. */
    private static final class StateTable {
        // Far above what a program within the limits of the document can reach.
        private static final int MAX_STATES = 1 << 20;
        private static final int FIRST_SPAN = 512;

        private long[] states = new long[FIRST_SPAN / 2];
        private long[] ways = new long[FIRST_SPAN / 2];
        // Number of a state + 1; 0 where no state is. Only the first slots, as many as the span, are in
        // use, so that a small program does not pay for a large one before it.
        private int[] slots = new int[FIRST_SPAN];
        private int span = FIRST_SPAN;
        private int size = 0;

        void clear() {
            size = 0;
            useSlots(FIRST_SPAN);
        }

        private void useSlots(int newSpan) {
            span = newSpan;
            if (slots.length < span) {
                slots = new int[span];
            }
            for (int slot = 0; slot < span && slot < slots.length; slot++) {
                slots[slot] = 0;
            }
        }

        int size() {
            return size;
        }

        long stateAt(int number) {
            return number >= 0 && number < size && number < states.length ? states[number] : NONE;
        }

        long waysAt(int number) {
            return number >= 0 && number < size && number < ways.length ? ways[number] : 0;
        }

        /** The slot of a state, or the free slot where it belongs. */
        private int slotOf(long state) {
            long mixed = state * 0x9E3779B97F4A7C15L;
            int slot = (int) (mixed >>> 36) & span - 1;
            for (int probe = 0; probe < span && slot < slots.length && slots[slot] != 0; probe++) {
                if (stateAt(slots[slot] - 1) == state) {
                    return slot;
                }
                slot = slot + 1 & span - 1;
            }
            return slot;
        }

        boolean contains(long state) {
            int slot = slotOf(state);
            return slot >= 0 && slot < slots.length && slots[slot] != 0;
        }

        /** Adds ways to a state, which is a new one if it was not found before. */
        void add(long state, long newWays) {
            makeRoom();
            int slot = slotOf(state);
            if (slot < 0 || slot >= slots.length) {
                return;
            }
            int number = slots[slot] - 1;
            if (number >= 0 && number < size && number < ways.length) {
                ways[number] += newWays;
            } else if (size < MAX_STATES && size < states.length && size < ways.length) {
                states[size] = state;
                ways[size] = newWays;
                size++;
                slots[slot] = size;
            }
        }

        /** Half of the slots stay free, so that every search for one ends soon. */
        private void makeRoom() {
            if (size >= MAX_STATES || size < span / 2) {
                return;
            }
            if (size >= states.length) {
                states = Arrays.copyOf(states, 2 * size);
                ways = Arrays.copyOf(ways, 2 * size);
            }
            useSlots(2 * span);
            for (int number = 0; number < size; number++) {
                int slot = slotOf(stateAt(number));
                if (slot >= 0 && slot < slots.length) {
                    slots[slot] = number + 1;
                }
            }
        }
    }

    /** Finds all states that a program can reach. */
    private static final class Explorer {
        private final Program program;
        private final Machine machine;
        private final StateTable table = new StateTable();
        private final int[] path = new int[MAX_STEPS];

        Explorer(Program program) {
            this.program = program;
            this.machine = new Machine(program);
        }

        /** Fills the table with all reachable states, each with the number of ways that lead to it. */
        void explore(int model, int waits) {
            machine.prepare(model, waits);
            table.clear();
            table.add(machine.start(), 1);
            // All ways to a state have as many steps, so that a state has all its ways when its turn comes.
            for (int number = 0; number < StateTable.MAX_STATES && number < table.size(); number++) {
                long state = table.stateAt(number);
                long ways = table.waysAt(number);
                for (int thread = 0; thread < machine.threads(); thread++) {
                    int parts = machine.parts(state, thread);
                    for (int part = 0; part < parts; part++) {
                        long next = machine.after(state, thread, part);
                        if (next != NONE) {
                            table.add(next, ways);
                        }
                    }
                }
            }
        }

        int outcomes() {
            int found = 0;
            for (int number = 0; number < table.size(); number++) {
                if (machine.isFinal(table.stateAt(number))) {
                    found++;
                }
            }
            return found;
        }

        int matches() {
            int found = 0;
            for (int number = 0; number < table.size(); number++) {
                long state = table.stateAt(number);
                if (machine.isFinal(state) && program.isFulfilledBy(Machine.codeOf(state))) {
                    found++;
                }
            }
            return found;
        }

        void report(Findings found) {
            found.begin(outcomes(), table.size());
            for (int number = 0; number < table.size(); number++) {
                long state = table.stateAt(number);
                if (machine.isFinal(state)) {
                    found.add(Machine.codeOf(state), table.waysAt(number));
                }
            }
            found.sort();
        }

        /** Finds the first execution with an outcome; false if there is none. */
        boolean findFirst(int model, int code, Explanation explanation) {
            machine.prepare(model, program.waits());
            table.clear();
            if (!leadsTo(code, machine.start(), 0)) {
                return false;
            }
            explanation.begin();
            long state = machine.start();
            for (int taken = 0; taken < MAX_STEPS && !machine.isFinal(state); taken++) {
                int thread = path[taken] / STEPS_OF_A_THREAD;
                int part = path[taken] % STEPS_OF_A_THREAD;
                explanation.addStep(machine, state, thread, part);
                state = machine.after(state, thread, part);
            }
            return true;
        }

        /**
         * Takes the least steps first, so that the first way found is the first execution. The table
         * holds the states that were tried: as the search ends with the first way, none of them leads on.
         */
        private boolean leadsTo(int code, long state, int depth) {
            if (machine.isFinal(state)) {
                return Machine.codeOf(state) == code;
            }
            if (depth >= MAX_STEPS || table.contains(state)) {
                return false;
            }
            table.add(state, 0);
            return hasStepTo(code, state, depth);
        }

        private boolean hasStepTo(int code, long state, int depth) {
            for (int thread = 0; thread < machine.threads(); thread++) {
                int parts = machine.parts(state, thread);
                for (int part = 0; part < parts; part++) {
                    long next = machine.after(state, thread, part);
                    boolean possible = next != NONE && !machine.isContradicted(state, next, thread, code);
                    if (possible && depth >= 0 && depth < MAX_STEPS && leadsTo(code, next, depth + 1)) {
                        path[depth] = STEPS_OF_A_THREAD * thread + part;
                        return true;
                    }
                }
            }
            return false;
        }
    }

    /** The outcomes of the program in one model, and what was counted there with fences in gaps. */
    private static final class Findings {
        private static final int FIRST_ROOM = 16;
        private static final int MAX_HALVINGS = 32;

        private int[] codes = new int[FIRST_ROOM];
        private long[] executions = new long[FIRST_ROOM];
        private int size = 0;
        private int states = 0;
        private boolean known = false;
        // Of each set of gaps, because the searches ask for the same sets again; NONE until counted.
        private final int[] fencedOutcomes = new int[1 << MAX_GAPS];
        private final int[] fencedMatches = new int[1 << MAX_GAPS];

        Findings() {
            Arrays.fill(fencedOutcomes, NONE);
        }

        boolean isKnown() {
            return known;
        }

        void forget() {
            known = false;
            Arrays.fill(fencedOutcomes, NONE);
        }

        void keepFenced(int gaps, int outcomes, int matches) {
            if (gaps >= 0 && gaps < fencedOutcomes.length && gaps < fencedMatches.length) {
                fencedOutcomes[gaps] = outcomes;
                fencedMatches[gaps] = matches;
            }
        }

        int fencedOutcomes(int gaps) {
            return gaps >= 0 && gaps < fencedOutcomes.length ? fencedOutcomes[gaps] : NONE;
        }

        int fencedMatches(int gaps) {
            return gaps >= 0 && gaps < fencedMatches.length ? fencedMatches[gaps] : NONE;
        }

        int size() {
            return size;
        }

        int states() {
            return states;
        }

        void begin(int outcomes, int newStates) {
            size = 0;
            states = newStates;
            known = true;
            if (outcomes > codes.length || outcomes > executions.length) {
                codes = new int[2 * outcomes];
                executions = new long[2 * outcomes];
            }
        }

        void add(int code, long ways) {
            if (size < codes.length && size < executions.length) {
                codes[size] = code;
                executions[size] = ways;
                size++;
            }
        }

        /** Sorts by insertion into rows that become denser (Shell's sort). */
        void sort() {
            int used = Math.min(size, Math.min(codes.length, executions.length));
            for (int gap = used / 2; gap > 0; gap /= 2) {
                for (int i = gap; i < used; i++) {
                    int code = codes[i];
                    long ways = executions[i];
                    int at = i;
                    for (; at >= gap && codes[at - gap] > code; at -= gap) {
                        codes[at] = codes[at - gap];
                        executions[at] = executions[at - gap];
                    }
                    codes[at] = code;
                    executions[at] = ways;
                }
            }
        }

        int codeAt(int index) {
            return index >= 0 && index < size && index < codes.length ? codes[index] : NONE;
        }

        long executionsAt(int index) {
            return index >= 0 && index < size && index < executions.length ? executions[index] : 0;
        }

        int placeOf(int code) {
            int low = 0;
            int high = size - 1;
            for (int halving = 0; halving < MAX_HALVINGS && low <= high; halving++) {
                int middle = (low + high) / 2;
                if (codeAt(middle) == code) {
                    return middle;
                }
                if (codeAt(middle) < code) {
                    low = middle + 1;
                } else {
                    high = middle - 1;
                }
            }
            return NONE;
        }

        /** The set of the values that a digit has in the outcomes. */
        int valuesAt(int shift) {
            int values = 0;
            for (int index = 0; index < size; index++) {
                values |= 1 << (codeAt(index) >> shift & MAX_VALUE);
            }
            return values;
        }
    }

    /** The execution that explains an outcome, with the instructions behind its values. */
    private static final class Explanation {
        private final Program program;
        private final int[] steps = new int[MAX_STEPS];
        private final int[] origins = new int[MAX_INSTRUCTIONS];
        private final int[] writers = new int[MAX_ACCESSES];
        private int size = 0;
        private int writerTotal = 0;
        private boolean present = false;

        Explanation(Program program) {
            this.program = program;
        }

        void forget() {
            present = false;
            size = 0;
            writerTotal = 0;
        }

        void begin() {
            forget();
            present = true;
        }

        boolean isPresent() {
            return present;
        }

        int size() {
            return size;
        }

        /** Adds the step that the machine makes in a state. */
        void addStep(Machine machine, long state, int thread, int part) {
            if (size < MAX_STEPS) {
                steps[size] = STEPS_OF_A_THREAD * thread + part;
                size++;
            }
            if (part != 0) {
                addWriter(machine.committed(state, thread, part - 1));
                return;
            }
            int i = machine.next(state, thread);
            int kind = program.property(i, KIND);
            int location = program.property(i, LOCATION);
            if ((kind == LOAD || kind == SWAP) && i >= 0 && i < MAX_INSTRUCTIONS) {
                int store = machine.forwarding(state, thread, location);
                origins[i] = store == NONE ? latestWriter(location) : store;
            }
            if (kind == SWAP || kind == STORE && machine.isUnbuffered()) {
                addWriter(i);
            }
        }

        private void addWriter(int instruction) {
            if (writerTotal < MAX_ACCESSES) {
                writers[writerTotal] = instruction;
                writerTotal++;
            }
        }

        private int latestWriter(int location) {
            int latest = NONE;
            for (int i = 0; i < writerTotal && i < MAX_ACCESSES; i++) {
                if (program.property(writers[i], LOCATION) == location) {
                    latest = writers[i];
                }
            }
            return latest;
        }

        int stepAt(int index) {
            return index >= 0 && index < size && index < MAX_STEPS ? steps[index] : NONE;
        }

        int originOf(int instruction) {
            return instruction >= 0 && instruction < MAX_INSTRUCTIONS ? origins[instruction] : NONE;
        }

        int writerAt(int location, int index) {
            int found = 0;
            for (int i = 0; i < writerTotal && i < MAX_ACCESSES; i++) {
                if (program.property(writers[i], LOCATION) == location) {
                    if (found == index) {
                        return writers[i];
                    }
                    found++;
                }
            }
            return NONE;
        }
    }
}
