import java.util.ArrayList;
import java.util.List;

/**
 * A test for each sentence of the document that names a boundary of a text: the buffer, its tokens, the
 * grammar, and the errors with their kinds. The sentence stands above its test. In a text with an error,
 * the sign ^ stands before the token at which the error is due; it does not belong to the text.
 */
public final class BoundsOfTextsTest {
    private static final String X = "loc x 0;";
    private static final String[] QUOTED = {"loc", "thread", "store", "load", "swap", "fence", "exists", "or", "and", "not"};

    public static void main(String[] args) {
        bufferOf600Bytes();
        readingEmptiesTheBuffer();
        blanksStandAnywhere();
        blanksSeparate();
        noOtherByteIsBlank();
        wordsExtend();
        registers();
        wordsOf1To8Letters();
        numbersOf1Or2Digits();
        symbolsAndOtherBytes();
        quotedWordsAreNoNames();
        partsOfAProgram();
        shapesOfInstructions();
        shapesOfConditions();
        leastOffset();
        textsThatEndTooEarly();
        leastKind();
        invalidTokens();
        valuesGreaterThan3();
        numbersOfThreads();
        namesDeclaredAlready();
        targetsOfEarlierInstructions();
        namesNotDeclared();
        valuesThatAreNoTargets();
        conditionsOfNoTargets();
        fourthLocation();
        fifthThread();
        eighthInstructionOfAThread();
        fifthAccessOfAThread();
        ninthAccessOfTheProgram();
        eleventhInstructionOfTheProgram();
        nestingInMoreThan4Units();
        seventeenthUnit();
        countsBeginAnew();
        Check.end();
    }

    private static void fine(int instructions, String text) {
        Check.equal("define of <" + text + ">", Check.define(new LitmusTester(), text), instructions);
    }

    /** The error is due at the token behind the sign ^. */
    private static void error(int kind, String marked) {
        int offset = marked.indexOf('^');
        String text = marked.substring(0, offset) + marked.substring(offset + 1);
        LitmusTester tester = Check.defined("loc kept 2;thread;fence;");
        Check.equal("define of <" + marked + ">", Check.define(tester, text), -(8 * offset + kind));
        Check.equal("the program stays after " + marked, Check.written(tester), "loc kept 2;thread;fence;");
    }

    /** "A program is described by a text in an input buffer of at most 600 bytes." */
    private static void bufferOf600Bytes() {
        String text = "loc q 3;" + " ".repeat(585) + "thread;";
        Check.equal("length", text.length(), 600);
        LitmusTester tester = new LitmusTester();
        Check.put(tester, text);
        Check.equal("bufferLength", tester.bufferLength(), 600);
        Check.equal("define", tester.define(), 0);
        Check.equal("the first bytes are read", tester.locationCount(), 1);
        Check.equal("the last bytes are read", tester.threadCount(), 1);
        error(1, X + "\n".repeat(591) + "^#");
        error(1, " ".repeat(597) + "loc^");
        error(1, "^" + ";".repeat(600));
        error(5, "exists " + "(".repeat(5) + "^" + "(".repeat(588));
        error(1, "loc ^" + "a".repeat(596));
        error(1, X + "^" + "0".repeat(592));
        Check.put(tester, text);
        Check.equal("one more byte", tester.append(0, 0, 0, 0, 0), -1);
        Check.equal("one more byte", tester.bufferLength(), 600);
    }

    /** "Every method that reads the buffer empties it, whatever the method returns." */
    private static void readingEmptiesTheBuffer() {
        LitmusTester tester = new LitmusTester();
        for (String text : new String[] {"", "loc x 0;", "loc x 4;", "#", "loc x 0;loc", " ".repeat(600)}) {
            Check.define(tester, text);
            Check.equal("bufferLength after define of <" + text + ">", tester.bufferLength(), 0);
            Check.no("nothing is left", tester.truncate(1));
        }
        Check.define(tester, X);
        for (String text : new String[] {"", "x", "y", "#", "x ", "abcdefghi", "x".repeat(600)}) {
            Check.findLocation(tester, text);
            Check.equal("bufferLength after findLocation of <" + text + ">", tester.bufferLength(), 0);
            Check.no("nothing is left", tester.truncate(1));
        }
        Check.put(tester, "loc y");
        Check.equal("what was read before is gone", tester.append(0x20303b20, 0x20202020, 0x20202020, 0x20202020, 0x20202020), 25);
        Check.equal("define", tester.define(), 0);
        Check.equal("y", Check.findLocation(tester, "y"), 0);
    }

    private static final String[] TOKENS = {"loc", "x", "0", ";", "loc", "y", "03", ";", "thread", ";", "store", "x", "1", ";",
        "load", "r1", "y", ";", "swap", "r0", "x", "r1", ";", "fence", ";", "thread", ";", "exists", "not", "(", "0", ":", "r1",
        "=", "3", "or", "x", "<", "1", ")", "and", "y", "=", "2", ";"};
    private static final String TIGHT = "loc x 0;loc y 03;thread;store x 1;load r1 y;swap r0 x r1;fence;thread;"
            + "exists not(0:r1=3or x<1)and y=2;";

    /** "Spaces (32) and newlines (10) may stand before the first token, between any two tokens and behind the last one". */
    private static void blanksStandAnywhere() {
        fine(4, TIGHT);
        for (String blank : new String[] {" ", "\n", "  ", "\n\n", " \n", "\n "}) {
            fine(4, String.join(blank, TOKENS));
            fine(4, blank + TIGHT);
            fine(4, TIGHT + blank);
            fine(4, blank + String.join(blank, TOKENS) + blank);
        }
        fine(0, " ");
        fine(0, "\n");
        fine(0, "\n \n");
    }

    /** "they separate tokens and have no other meaning." */
    private static void blanksSeparate() {
        for (String blank : new String[] {" ", "\n"}) {
            error(1, "^lo" + blank + "c x 0;");
            error(1, "loc x" + blank + "^y 0;");
            error(1, "loc x 0" + blank + "^0;");
            error(1, X + "thread;load ^r" + blank + "0 x;");
            error(1, X + "thread;load r0 x" + blank + "^y;");
            error(1, "^locx" + blank + "0;");
        }
    }

    /** The other side of "Spaces (32) and newlines (10)": no other byte stands for them. */
    private static void noOtherByteIsBlank() {
        for (int other : new int[] {0, 9, 11, 12, 13, 31, 33, 127, 133, 160, 255}) {
            char sign = (char) other;
            error(1, "^" + sign + X);
            error(1, "loc^" + sign + "x 0;");
            error(1, "loc x 0^" + sign + ";");
            error(1, X + "^" + sign);
        }
    }

    /** "A token that begins with a lowercase letter extends over all directly following lowercase letters and digits". */
    private static void wordsExtend() {
        error(1, "loc ^x0;");
        error(1, "loc ^x0 1;");
        error(1, "loc ^x1y 0;");
        error(1, "loc ^xyzxyz1 0;");
        error(1, "^loc1 x 0;");
        error(1, "^threads;");
        error(1, X + "thread;load ^r0x;");
        error(1, X + "thread;load ^r0x 1;");
        // It ends before anything else.
        error(1, "loc x^X 0;");
        error(1, "loc x^_y 0;");
        error(1, "loc x^;0;");
        fine(0, X + "exists x=0;");
        // A number does not extend over letters, and a word does not begin with a digit.
        fine(0, X + "exists x=0or x=1and x=2;");
        error(1, "loc ^0x 0;");
        error(1, X + "thread;load ^0r0 x;");
    }

    /** "it is a REG if it is r0 or r1". */
    private static void registers() {
        fine(1, X + "thread;load r0 x;");
        fine(1, X + "thread;load r1 x;");
        fine(2, X + "thread;load r0 x;swap r1 x r0;exists 0:r0=0 and 0:r1=0;");
        for (String other : new String[] {"r2", "r9", "r00", "r01", "r10", "r11", "s0", "q1", "rr0", "r0r", "r0r0", "R0", "r", "rr"}) {
            error(1, X + "thread;load ^" + other + " x;");
            error(1, X + "thread;swap ^" + other + " x 1;");
            error(1, X + "thread;store x ^" + other + ";");
            error(1, X + "thread;load r0 x;exists 0:^" + other + "=1;");
        }
        error(1, "loc ^r0 0;");
        error(1, "loc ^r1 0;");
        error(1, X + "thread;store ^r0 1;");
        error(1, X + "exists ^r0=0;");
        fine(1, "loc r 0;thread;load r0 r;exists r=0;");
        fine(1, "loc rr 0;thread;load r0 rr;exists rr=0;");
    }

    /** "a word if it consists of 1 to 8 letters, and otherwise it is invalid." */
    private static void wordsOf1To8Letters() {
        for (String word : new String[] {"a", "z", "az", "zzzzzzzz", "aaaaaaaa", "abcdefg", "abcdefgh"}) {
            fine(1, "loc " + word + " 0;thread;store " + word + " 1;exists " + word + "=1;");
        }
        for (String other : new String[] {"abcdefghi", "aaaaaaaaa", "zzzzzzzzz", "abcdefg1", "a1", "z9", "aaaaaaaaaaaaaaaax",
            "x" + "a".repeat(32), "@", "`", "{", "[", "A", "Z"}) {
            error(1, "loc ^" + other + " 0;");
            error(1, X + "thread;store ^" + other + " 1;");
            error(1, X + "exists ^" + other + "=1;");
        }
        error(1, X + "^existsexists x=0;");
    }

    /** "A number is a maximal run of digits and has 1 or 2 digits (a longer run is invalid)." */
    private static void numbersOf1Or2Digits() {
        for (String number : new String[] {"0", "1", "2", "3", "00", "01", "02", "03"}) {
            LitmusTester tester = Check.defined("loc x " + number + ";thread;store x " + number + ";exists x=" + number + ";");
            int value = Integer.parseInt(number);
            Check.equal("initial value " + number, tester.finalValues(0, 0), 1 << value);
            Check.equal("constant " + number, tester.instruction(0, 4), value);
            Check.equal("number " + number + " of the condition", tester.matchCount(0), 1);
        }
        fine(1, X + "thread;load r0 x;exists 00:r0=1;");
        // 2^32 + 1 and 2^64 + 1 are 1 for ints and longs that wrap around.
        for (String other : new String[] {"000", "001", "003", "100", "0000", "4294967297", "18446744073709551617", "0".repeat(100)}) {
            error(1, "loc x ^" + other + ";");
            error(1, X + "thread;store x ^" + other + ";");
            error(1, X + "thread;swap r0 x ^" + other + ";");
            error(1, X + "thread;load r0 x;exists x=^" + other + ";");
            error(1, X + "thread;load r0 x;exists x<^" + other + ";");
            error(1, X + "thread;load r0 x;exists ^" + other + ":r0=1;");
        }
        error(1, "loc x 0^/;");
        error(1, "loc x ^-0;");
        error(1, "loc x ^+0;");
    }

    /** "The symbols are ; : = < ( and ). Any other byte is an invalid token." */
    private static void symbolsAndOtherBytes() {
        for (int i = 0; i < 256; i++) {
            char sign = (char) i;
            if (sign == ' ' || sign == '\n') {
                fine(0, X + sign);
                continue;
            }
            error(1, "^" + sign);
            error(1, X + "^" + sign + X);
            if (sign != ';') {
                error(1, "loc x 0 ^" + sign + " ;");
            }
            if (sign != '=' && sign != '<') {
                error(1, X + "exists x ^" + sign + " 1;");
            }
        }
    }

    /** "A NAME is a word that does not stand in quotation marks in this grammar." */
    private static void quotedWordsAreNoNames() {
        for (String quoted : QUOTED) {
            error(1, "loc ^" + quoted + " 0;");
            error(1, X + "thread;store ^" + quoted + " 1;");
            error(1, X + "thread;load r0 ^" + quoted + ";");
            error(1, X + "thread;swap r0 ^" + quoted + " 1;");
            error(1, X + "exists " + (quoted.equals("not") ? "not ^=1;" : "^" + quoted + "=1;"));
            String longer = quoted + "s";
            String shorter = quoted.substring(1);
            fine(1, "loc " + longer + " 0;thread;store " + longer + " 1;exists " + longer + "=1;");
            fine(1, "loc " + shorter + " 0;thread;store " + shorter + " 1;exists " + shorter + "=1;");
        }
    }

    /** "program = { "loc" .. } { "thread" ";" .. } [ "exists" condition ";" ]": each part may be missing, none comes late. */
    private static void partsOfAProgram() {
        fine(0, "");
        fine(0, X);
        fine(0, "thread;");
        fine(0, X + "exists x=0;");
        fine(0, "thread;thread;");
        fine(1, X + "thread;store x 1;thread;exists x=0;");
        error(1, "thread;^loc x 0;");
        error(1, X + "exists x=0;^loc y 0;");
        error(1, X + "exists x=0;^thread;");
        error(1, X + "exists x=0;^exists x=0;");
        error(1, X + "exists x=0;^;");
        error(1, X + "^fence;");
        error(1, X + "^store x 1;");
        error(1, X + "^x=0;");
        error(1, X + "exists ^;");
        error(1, "exists ^;");
        error(1, X + "thread;^or x=0;");
        error(1, X + "^;");
        error(1, "^;");
    }

    /** "instruction = "store" NAME value | "load" REG NAME | "swap" REG NAME value | "fence"": no token less, none more. */
    private static void shapesOfInstructions() {
        error(1, X + "thread;store ^;");
        error(1, X + "thread;store ^1;");
        error(1, X + "thread;store x ^;");
        error(1, X + "thread;store x ^x;");
        error(1, X + "thread;store x 1 ^1;");
        error(1, X + "thread;load ^;");
        error(1, X + "thread;load ^x;");
        error(1, X + "thread;load r0 ^;");
        error(1, X + "thread;load r0 ^r1;");
        error(1, X + "thread;load r0 x ^1;");
        error(1, X + "thread;swap ^;");
        error(1, X + "thread;swap ^x 1;");
        error(1, X + "thread;swap r0 ^;");
        error(1, X + "thread;swap r0 ^1;");
        error(1, X + "thread;swap r0 x ^;");
        error(1, X + "thread;swap r0 x 1 ^1;");
        error(1, X + "thread;fence ^x;");
        error(1, X + "thread;fence;^;");
        error(1, X + "thread ^fence;");
        error(1, "loc x 0 ^loc y 0;");
        error(1, "loc x ^;");
        error(1, "loc ^;");
        error(1, "loc x ^r0;");
    }

    /** "unit = "not" unit | "(" condition ")" | ( NUMBER ":" REG | NAME ) ( "=" | "<" ) NUMBER", and what joins units. */
    private static void shapesOfConditions() {
        String start = X + "thread;load r0 x;exists ";
        fine(1, start + "x=0;");
        fine(1, start + "0:r0<1;");
        fine(1, start + "not(x=0 or not 0:r0=1)and(x<2);");
        error(1, start + "x^;");
        error(1, start + "x^:r0=0;");
        error(1, start + "x=^;");
        error(1, start + "x=^x;");
        error(1, start + "x=^r0;");
        error(1, start + "x<^=1;");
        error(1, start + "x=0^=0;");
        error(1, start + "0^=0;");
        error(1, start + "0^;");
        error(1, start + "0:^0=0;");
        error(1, start + "0:^x=0;");
        error(1, start + "0:r0^;");
        error(1, start + "^r0=0;");
        error(1, start + "^=0;");
        error(1, start + "^<0;");
        error(1, start + "^:r0=0;");
        error(1, start + "^);");
        error(1, start + "(^);");
        error(1, start + "(x=0^;");
        error(1, start + "x=0^);");
        error(1, start + "(x=0)^);");
        error(1, start + "(x=0)^=0;");
        error(1, start + "not ^;");
        error(1, start + "not ^and x=0;");
        error(1, start + "x=0 ^x=0;");
        error(1, start + "x=0 ^not x=0;");
        error(1, start + "x=0 ^(x=0);");
        error(1, start + "x=0 or ^;");
        error(1, start + "x=0 and ^;");
        error(1, start + "x=0 or ^or x=0;");
        error(1, start + "x=0 or ^and x=0;");
        error(1, start + "^or x=0;");
    }

    /** "The error with the least byte offset of a token is reported". */
    private static void leastOffset() {
        error(5, "loc a 0;loc b 0;loc c 0;^loc a 4;#");
        error(4, X + "thread;store ^y 4;");
        error(3, X + "loc ^x 4;");
        error(2, "loc x ^4;#");
        error(1, "loc ^# 4;");
        error(2, "loc x ^4;loc x 0;");
        error(3, X + "thread;load r0 x;load ^r0 y;");
        error(4, X + "exists ^y=4;");
        error(2, X + "exists x=^4 and y=0;");
        error(2, X + "exists ^0:r0=4;");
        error(5, X + "thread;" + "fence;".repeat(7) + "^store y 4;");
    }

    /** "(the length of the text if the text ends too early)". */
    private static void textsThatEndTooEarly() {
        List<String> before = new ArrayList<>();
        for (int i = 0; i < TOKENS.length; i++) {
            String text = String.join(" ", before);
            boolean whole = i == 0 || TOKENS[i - 1].equals(";");
            for (String blanks : new String[] {"", " ", "\n", "  \n"}) {
                if (whole) {
                    int instructions = (int) before.stream().filter(List.of("store", "load", "swap", "fence")::contains).count();
                    fine(instructions, text + blanks);
                } else {
                    error(1, text + blanks + "^");
                }
            }
            before.add(TOKENS[i]);
        }
        error(1, X + "exists^");
        error(1, X + "exists not^");
        error(1, X + "exists (x=0^");
        error(1, "loc^");
        error(1, "thread^");
    }

    /** "if several kinds apply to one token, the least kind is reported." */
    private static void leastKind() {
        String deep = X + "thread;load r0 x;exists not not not not not ";
        String many = X + "thread;load r0 x;exists x=0" + " or x=0".repeat(15) + " and ";
        for (String start : new String[] {deep, many}) {
            error(5, start + "^x=0;");
            error(5, start + "^0:r0=0;");
            error(5, start + "^not x=0;");
            error(5, start + "^(x=0);");
            // 1 and 5.
            error(1, start + "^#;");
            error(1, start + "^;");
            error(1, start + "^)=0;");
            error(1, start + "^r0=0;");
            error(1, start + "^000:r0=0;");
            error(1, start + "^abcdefghi=0;");
            error(1, start + "^");
            // 2 and 5.
            error(2, start + "^1:r0=0;");
            error(2, start + "^99:r0=0;");
            // 4 and 5.
            error(4, start + "^y=0;");
        }
        // 1 and 4: a word in quotation marks is no name, and no location either.
        error(1, X + "exists ^loc=0;");
        // 2 at the number, before 4 at the register.
        error(2, X + "exists ^0:r0=0;");
        // 1 and 5: where no line of this kind may stand at all.
        error(1, "loc a 0;loc b 0;loc c 0;thread;^loc d 0;");
        error(1, "thread;thread;thread;thread;^loc d 0;");
        // 1 and 2, of numbers with 3 digits.
        error(1, "loc x ^100;");
        // 1 and 3, 1 and 4, of registers and names that are too long.
        error(1, X + "thread;load r0 x;load ^r00 x;");
        error(1, X + "thread;store x ^r2;");
    }

    /** "1: an invalid token, or a token that the grammar does not allow there." */
    private static void invalidTokens() {
        // Every token of a text in turn, first an invalid one in its place, then one that is valid elsewhere.
        for (int i = 0; i < TOKENS.length; i++) {
            StringBuilder before = new StringBuilder();
            StringBuilder behind = new StringBuilder();
            for (int j = 0; j < TOKENS.length; j++) {
                (j < i ? before : behind).append(j == i ? "" : TOKENS[j] + " ");
            }
            for (String other : new String[] {"#", "\u00e4", "x1", "abcdefghi", "000", "r2"}) {
                error(1, before + "^" + other + " " + behind);
            }
            String misplaced = TOKENS[i].equals(":") ? "<" : ":";
            error(1, before + "^" + misplaced + " " + behind);
        }
    }

    /** "2: a value, an initial value, or a number behind "=" or "<" that is greater than 3". */
    private static void valuesGreaterThan3() {
        for (String greatest : new String[] {"3", "03"}) {
            fine(2, "loc x " + greatest + ";thread;store x " + greatest + ";swap r0 x " + greatest + ";exists x=" + greatest
                    + " or x<" + greatest + " or 0:r0=" + greatest + " or 0:r0<" + greatest + ";");
        }
        for (String greater : new String[] {"4", "04", "5", "9", "10", "30", "99"}) {
            error(2, "loc x ^" + greater + ";");
            error(2, X + "thread;store x ^" + greater + ";");
            error(2, X + "thread;swap r0 x ^" + greater + ";");
            error(2, X + "exists x=^" + greater + ";");
            error(2, X + "exists x<^" + greater + ";");
            error(2, X + "thread;load r0 x;exists 0:r0=^" + greater + ";");
            error(2, X + "thread;load r0 x;exists 0:r0<^" + greater + ";");
        }
    }

    /** "2: .. a number before ":" that is not the number of a thread." */
    private static void numbersOfThreads() {
        error(2, "exists ^0:r0=0;");
        StringBuilder text = new StringBuilder(X);
        for (int threads = 1; threads <= 4; threads++) {
            text.append("thread;load r0 x;");
            fine(threads, text + "exists " + (threads - 1) + ":r0=0;");
            fine(threads, text + "exists 0" + (threads - 1) + ":r0=0;");
            fine(threads, text + "exists 0:r0=0;");
            error(2, text + "exists ^" + threads + ":r0=0;");
            error(2, text + "exists ^0" + threads + ":r0=0;");
            error(2, text + "exists ^10:r0=0;");
            error(2, text + "exists ^99:r0=0;");
        }
        // A thread without instructions has its number too.
        error(4, X + "thread;load r0 x;thread;exists 1:^r0=0;");
        error(2, X + "thread;load r0 x;thread;exists ^2:r0=0;");
    }

    /** "3: the name of a location that is declared already". */
    private static void namesDeclaredAlready() {
        error(3, X + "loc ^x 0;");
        error(3, X + "loc y 0;loc ^x 0;");
        error(3, X + "loc y 0;loc ^y 0;");
        error(3, "loc abcdefgh 0;loc ^abcdefgh 1;");
        fine(0, X + "loc xx 0;loc y 0;");
        fine(0, "loc abcdefgh 0;loc abcdefgi 0;loc bbcdefgh 0;");
        fine(0, "loc abcdefgh 0;loc abcdefg 0;loc bcdefgh 0;");
        fine(0, "loc a 0;loc aa 0;loc aaa 0;");
        // A 4th location is reported at the first token of its line, before its name.
        error(5, X + "loc y 0;loc z 0;^loc x 0;");
    }

    /** "3: .. a REG that is the target of an earlier load or swap of the same thread." */
    private static void targetsOfEarlierInstructions() {
        for (String first : new String[] {"load %s x;", "swap %s x 1;"}) {
            for (String second : new String[] {"load %s x;", "swap %s x 1;"}) {
                for (String between : new String[] {"", "fence;", "store x 1;"}) {
                    for (int register = 0; register < 2; register++) {
                        String start = X + "thread;" + first.formatted("r" + register) + between;
                        error(3, start + second.formatted("^r" + register));
                        int size = between.isEmpty() ? 2 : 3;
                        fine(size, start + second.formatted("r" + (1 - register)));
                        fine(size, start + "thread;" + second.formatted("r" + register));
                    }
                }
            }
        }
        error(3, X + "thread;load r0 x;load r1 x;load ^r0 x;");
        error(3, X + "thread;load r0 x;load r1 x;swap ^r1 x 0;");
        // As a value it may stand again.
        fine(4, X + "thread;load r0 x;store x r0;store x r0;swap r1 x r0;");
    }

    /** "4: a name that is not declared". */
    private static void namesNotDeclared() {
        error(4, "thread;store ^x 1;");
        error(4, "thread;load r0 ^x;");
        error(4, "thread;swap r0 ^x 1;");
        error(4, "exists ^x=0;");
        for (String other : new String[] {"y", "xx", "w", "a", "abcdefgh"}) {
            error(4, X + "thread;store ^" + other + " 1;");
            error(4, X + "thread;load r0 ^" + other + ";");
            error(4, X + "thread;swap r0 ^" + other + " 1;");
            error(4, X + "exists ^" + other + "=0;");
        }
        error(4, "loc abcdefgh 0;exists ^abcdefg=0;");
        error(4, "loc abcdefg 0;exists ^abcdefgh=0;");
        fine(3, "loc a 0;loc b 0;loc c 0;thread;store a 1;load r0 b;swap r1 c 1;exists a=1 and b=0 and c=1;");
        // Names of a program that was replaced are not declared any more.
        LitmusTester tester = Check.defined("loc old 0;");
        Check.equal("define", Check.define(tester, "loc new 0;exists old=0;"), -(8 * 17 + 4));
    }

    /** "4: .. a REG as a value that is not the target of an earlier instruction of the same thread". */
    private static void valuesThatAreNoTargets() {
        for (int register = 0; register < 2; register++) {
            String own = "r" + register;
            String other = "r" + (1 - register);
            error(4, X + "thread;store x ^" + own + ";");
            error(4, X + "thread;load " + other + " x;store x ^" + own + ";");
            error(4, X + "thread;swap " + own + " x ^" + own + ";");
            error(4, X + "thread;swap " + other + " x ^" + own + ";");
            error(4, X + "thread;load " + own + " x;thread;store x ^" + own + ";");
            error(4, X + "thread;load " + own + " x;thread;swap " + other + " x ^" + own + ";");
            error(4, X + "thread;store x ^" + own + ";load " + own + " x;");
            fine(2, X + "thread;load " + own + " x;store x " + own + ";");
            fine(2, X + "thread;swap " + own + " x 1;store x " + own + ";");
            fine(2, X + "thread;load " + own + " x;swap " + other + " x " + own + ";");
            fine(3, X + "thread;swap " + own + " x 1;fence;swap " + other + " x " + own + ";");
        }
    }

    /** "4: .. a REG behind ":" that is not the target of an instruction of that thread." */
    private static void conditionsOfNoTargets() {
        for (int register = 0; register < 2; register++) {
            String own = "r" + register;
            String other = "r" + (1 - register);
            error(4, "thread;exists 0:^" + own + "=0;");
            error(4, X + "thread;load " + own + " x;exists 0:^" + other + "=0;");
            error(4, X + "thread;swap " + own + " x 1;exists 0:^" + other + "=0;");
            error(4, X + "thread;load " + own + " x;thread;exists 1:^" + own + "=0;");
            error(4, X + "thread;thread;load " + own + " x;exists 0:^" + own + "=0;");
            fine(1, X + "thread;load " + own + " x;exists 0:" + own + "=0;");
            fine(1, X + "thread;thread;swap " + own + " x 1;exists 1:" + own + "=0;");
            fine(2, X + "thread;fence;load " + own + " x;exists 0:" + own + "<1;");
        }
    }

    /** "5: too many: the first token of the line of a 4th location". */
    private static void fourthLocation() {
        String three = "loc a 0;loc b 0;loc c 0;";
        fine(0, three);
        fine(0, three + "thread;exists c=0;");
        error(5, three + "^loc d 0;");
        error(5, three + "^loc a 0;");
        error(5, three + "^loc d 4;");
        error(5, three + "^loc");
        error(5, three + "\n ^loc #");
        error(5, three + "^loc d 0;loc e 0;");
    }

    /** "5: .. or of a 5th thread". */
    private static void fifthThread() {
        fine(0, "thread;".repeat(4));
        error(5, "thread;".repeat(4) + "^thread;");
        error(5, "thread;".repeat(4) + "^thread");
        error(5, "thread;".repeat(4) + "^thread #");
        fine(4, "thread;fence;".repeat(4));
        error(5, "thread;fence;".repeat(4) + "^thread;fence;");
        fine(0, "thread;".repeat(4) + "  ");
    }

    /** "5: .. the first token of an 8th instruction of a thread". */
    private static void eighthInstructionOfAThread() {
        String fences = "thread;" + "fence;".repeat(7);
        String mixed = X + "thread;store x 1;fence;load r0 x;fence;swap r1 x 1;fence;store x 2;";
        fine(7, fences);
        fine(7, mixed);
        for (String next : new String[] {"fence;", "store x 1;", "load r0 x;", "swap r0 x 1;", "fence", "store", "load #", "swap"}) {
            error(5, X + fences + "^" + next);
            error(5, mixed + "^" + next);
        }
        fine(8, fences + "thread;fence;");
        fine(8, "thread;fence;" + fences);
        for (int thread = 1; thread < 4; thread++) {
            fine(8, "thread;fence;" + "thread;".repeat(thread - 1) + fences);
            error(5, "thread;fence;" + "thread;".repeat(thread - 1) + fences + "^fence;");
        }
    }

    /** "5: .. of a 5th one of a thread that is not a fence". */
    private static void fifthAccessOfAThread() {
        String[] fours = {"store x 1;store x 2;store x 3;store x 0;", "load r0 x;load r1 x;store x 1;store x 2;",
            "swap r0 x 1;swap r1 x r0;store x r1;store x r0;", "store x 1;fence;store x 2;fence;load r0 x;fence;store x 3;"};
        for (String four : fours) {
            int size = four.split(";").length;
            fine(size, X + "thread;" + four);
            for (String next : new String[] {"store x 1;", "load r0 x;", "swap r1 x 1;", "store", "load", "swap"}) {
                error(5, X + "thread;" + four + "^" + next);
            }
            if (size < 7) {
                fine(size + 1, X + "thread;" + four + "fence;");
                error(5, X + "thread;" + four + "fence;^store x 1;");
            }
            fine(size + 1, X + "thread;" + four + "thread;store x 1;");
            // The same in each of the threads, and with other locations.
            for (int thread = 1; thread < 4; thread++) {
                String start = "loc y 0;loc x 0;thread;store y 1;" + "thread;".repeat(thread) + four.replaceFirst("x", "y");
                fine(size + 1, start + "thread;".repeat(3 - thread));
                error(5, start + "^store x 1;");
                error(5, start + "^load r1 y;");
            }
        }
    }

    /** "5: .. of a 9th one of the program that is not a fence". */
    private static void ninthAccessOfTheProgram() {
        String[] eights = {"thread;store x 1;store x 1;store x 1;store x 1;thread;store x 1;store x 1;store x 1;store x 1;thread;",
            "thread;store x 1;load r0 x;thread;load r0 x;load r1 x;thread;swap r0 x 1;swap r1 x 1;thread;store x 1;store x 2;",
            "thread;load r0 x;thread;store x 1;store x 1;store x 1;store x 1;thread;load r0 x;load r1 x;thread;swap r0 x 1;"};
        String other = "loc y 0;loc z 0;" + X + eights[1].replaceFirst("x", "y").replaceFirst("x", "z");
        fine(8, other);
        error(5, other + "^store y 1;");
        error(5, other + "^swap r0 z 1;");
        for (String eight : eights) {
            fine(8, X + eight);
            fine(9, X + eight + "fence;");
            fine(10, X + eight + "fence;fence;");
            for (String next : new String[] {"store x 1;", "load r1 x;", "swap r1 x 1;", "store", "load", "swap"}) {
                error(5, X + eight + "^" + next);
                error(5, X + eight + "fence;^" + next);
            }
        }
    }

    /** "5: .. or of an 11th one of the program". */
    private static void eleventhInstructionOfTheProgram() {
        String[] tens = {"thread;fence;fence;fence;fence;fence;thread;fence;fence;fence;fence;fence;",
            "thread;fence;fence;fence;fence;fence;fence;fence;thread;fence;fence;fence;",
            "thread;fence;fence;fence;thread;fence;store x 1;fence;thread;load r0 x;fence;thread;fence;fence;"};
        for (String ten : tens) {
            fine(10, X + ten);
            for (String next : new String[] {"fence;", "store x 1;", "load r0 x;", "swap r0 x 1;", "fence", "store", "load", "swap"}) {
                error(5, X + ten + "^" + next);
            }
        }
        fine(10, X + tens[0] + "thread;thread;");
        error(5, X + tens[0] + "thread;thread;^fence;");
    }

    /**
     * "5: .. the first token of a unit that is nested in more than 4 other units (the units around a unit are
     * the "not" units and the units in parentheses that contain it)".
     */
    private static void nestingInMoreThan4Units() {
        String start = X + "thread;load r0 x;exists ";
        // Each bit of a pattern says which kind of unit stands around the next one.
        for (int pattern = 0; pattern < 32; pattern++) {
            StringBuilder open = new StringBuilder();
            StringBuilder close = new StringBuilder();
            for (int depth = 0; depth < 5; depth++) {
                boolean negated = (pattern >> depth & 1) == 0;
                if (depth == 4) {
                    fine(1, start + open + "x=0" + close + ";");
                    fine(1, start + open + "0:r0=0" + close + ";");
                    fine(1, start + open + "x=0" + close + " or " + open + "x=0" + close + ";");
                }
                open.append(negated ? "not " : "(");
                close.append(negated ? "" : ")");
            }
            for (String unit : new String[] {"x=0", "0:r0=0", "not x=0", "(x=0)", "not", "(", "0"}) {
                error(5, start + open + "^" + unit + close + ";");
            }
        }
        // Units beside a unit are not around it.
        fine(1, start + "(x=0 or (x=1 or (x=2 or (x=3 or x=0 or x=1) and x=0) and x=0));");
        error(5, start + "(x=0 or (x=1 or (x=2 or (x=3 or (^x=0)))));");
        fine(1, start + "not not not not x=0 and not not not not x=0;");
    }

    /** "5: .. or of a 17th unit of the condition ("not" units and units in parentheses count as well)." */
    private static void seventeenthUnit() {
        String start = X + "thread;load r0 x;exists ";
        String[] sixteens = {
            "x=0" + " or x=0".repeat(15), "0:r0=0" + " and 0:r0<1".repeat(15), "not x=0" + " or not x=0".repeat(7),
            "(x=0)" + " and (x=0)".repeat(7), "(x=0" + " or x=0".repeat(14) + ")", "not(x=0" + " or x=0".repeat(13) + ")",
            "not not not not x=0 or ((((x=0)))) or not x=0 or not (x=0) and x=0"};
        for (String sixteen : sixteens) {
            fine(1, start + sixteen + ";");
            for (String unit : new String[] {"x=0", "0:r0=0", "not x=0", "(x=0)", "not", "(", "0", "x"}) {
                error(5, start + sixteen + " or ^" + unit + ";");
                error(5, start + sixteen + " and ^" + unit + ";");
            }
        }
        error(5, start + "x=0" + " or x=0".repeat(14) + " or not ^x=0;");
        error(5, start + "x=0" + " or x=0".repeat(14) + " or (^x=0);");
        // What is behind the last of 16 units still counts: all of them are kept.
        LitmusTester tester = Check.defined(X + "exists x=1" + " or x=1".repeat(14) + " or x=2;");
        Check.yes("the last unit", tester.fulfils(2));
        Check.yes("a unit before it", tester.fulfils(1));
        Check.no("no unit", tester.fulfils(3));
    }

    /** All these counts are those of one text: what was read before has no part in them. */
    private static void countsBeginAnew() {
        LitmusTester tester = new LitmusTester();
        String text = "loc a 0;loc b 0;loc c 0;" + "thread;load r0 a;load r1 b;".repeat(4) + "fence;fence;exists a=0"
                + " or a=0".repeat(15) + ";";
        for (int round = 0; round < 3; round++) {
            Check.equal("define in round " + round, Check.define(tester, text), 10);
            Check.equal("an error in round " + round, Check.define(tester, text + "#"), -(8 * text.length() + 1));
        }
        Check.yes("the text is within its bound", text.length() < 600);
    }
}
