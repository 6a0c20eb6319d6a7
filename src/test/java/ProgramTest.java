import java.util.NoSuchElementException;

/** Promises 1 to 12: the buffer, the program and its text. */
public final class ProgramTest {
    private static final String BUFFERING =
            "loc x 0;loc y 0;thread;store x 1;load r0 y;thread;store y 1;load r0 x;";

    public static void main(String[] args) {
        newObject();
        append();
        truncate();
        bufferLength();
        define();
        defineKeepsWhatStands();
        tokens();
        errorsOfTokensAndGrammar();
        errorsOfValues();
        errorsOfNames();
        tooMany();
        tooManyUnits();
        leastKind();
        counts();
        instruction();
        findLocation();
        write();
        outputByte();
        Check.end();
    }

    private static void newObject() {
        LitmusTester x = new LitmusTester();
        Check.equal("threadCount", x.threadCount(), 0);
        Check.equal("locationCount", x.locationCount(), 0);
        Check.equal("instructionCount", x.instructionCount(), 0);
        Check.equal("bufferLength", x.bufferLength(), 0);
        Check.thrown("outputByte", NoSuchElementException.class, () -> x.outputByte(0));
        Check.equal("step", x.step(0), -1);
        Check.yes("fulfils", x.fulfils(0));
        Check.equal("undo", x.undo(), -1);
        Check.equal("outcomeCount", x.outcomeCount(2), 1);
        Check.equal("NONE", LitmusTester.NONE, -1);
        LitmusTester y = new LitmusTester();
        Check.define(y, BUFFERING);
        Check.equal("another object", x.instructionCount(), 0);
    }

    private static void append() {
        LitmusTester x = new LitmusTester();
        // "loc a 1;" and "loc b 2;" are two ints each; the newlines fill the rest.
        int loc = 'l' << 24 | 'o' << 16 | 'c' << 8 | ' ';
        int a = 'a' << 24 | ' ' << 16 | '1' << 8 | ';';
        int b = 'b' << 24 | ' ' << 16 | '2' << 8 | ';';
        Check.equal("append", x.append(loc, a, loc, b, '\n' * 0x01010101), 20);
        Check.equal("define", x.define(), 0);
        Check.equal("written", Check.written(x), "loc a 1;loc b 2;");
        for (int length = 20; length <= 600; length += 20) {
            Check.equal("append", x.append(loc, a, loc, b, 0), length);
        }
        Check.equal("append beyond 600", x.append(0, 0, 0, 0, 0), -1);
        Check.equal("bufferLength", x.bufferLength(), 600);
        Check.yes("truncate", x.truncate(581));
        Check.equal("append beyond 600", x.append(0, 0, 0, 0, 0), -1);
        Check.equal("bufferLength", x.bufferLength(), 581);
        Check.yes("truncate", x.truncate(580));
        Check.equal("append up to 600", x.append(0, 0, 0, 0, 0), 600);
        Check.yes("truncate", x.truncate(12));
        // The bytes behind the new length were different ones before.
        Check.equal("append behind", x.append(b, ' ' * 0x01010101, ' ' * 0x01010101, ' ' * 0x01010101, -1), 32);
        Check.equal("define", x.define(), -(8 * 28 + 1));
        Check.put(x, " ".repeat(592) + "loc q 3;");
        Check.equal("a text of 600 bytes", x.define(), 0);
        Check.equal("its location", x.locationCount(), 1);
    }

    private static void truncate() {
        LitmusTester x = new LitmusTester();
        Check.yes("truncate to 0", x.truncate(0));
        Check.no("truncate to 1", x.truncate(1));
        x.append(1, 2, 3, 4, 5);
        Check.no("truncate to 21", x.truncate(21));
        Check.no("truncate to -1", x.truncate(-1));
        Check.no("truncate to the least int", x.truncate(Integer.MIN_VALUE));
        Check.no("truncate to the greatest int", x.truncate(Integer.MAX_VALUE));
        Check.equal("bufferLength", x.bufferLength(), 20);
        Check.yes("truncate to 20", x.truncate(20));
        Check.yes("truncate to 7", x.truncate(7));
        Check.equal("bufferLength", x.bufferLength(), 7);
        Check.no("truncate to 8", x.truncate(8));
    }

    private static void bufferLength() {
        LitmusTester x = new LitmusTester();
        Check.put(x, "loc");
        Check.equal("bufferLength", x.bufferLength(), 3);
        x.write();
        x.outcomeCount(0);
        Check.equal("not read", x.bufferLength(), 3);
        Check.equal("define", x.define(), -25);
        Check.equal("read with an error", x.bufferLength(), 0);
        Check.put(x, "loc x 0;");
        x.define();
        Check.equal("read without an error", x.bufferLength(), 0);
        Check.put(x, "x ");
        Check.equal("findLocation", x.findLocation(), -1);
        Check.equal("read by findLocation", x.bufferLength(), 0);
    }

    private static void due(String text, int due) {
        Check.equal("define of " + text, Check.define(new LitmusTester(), text), due);
    }

    private static void error(String text, int offset, int kind) {
        due(text, -(8 * offset + kind));
    }

    private static void define() {
        due("", 0);
        due(" \n ", 0);
        due("thread;", 0);
        due("exists", -49);
        due(BUFFERING, 4);
        due(BUFFERING + "exists 0:r0=0 and 1:r0=0;", 4);
        LitmusTester x = Check.defined(BUFFERING);
        Check.equal("insertFence", x.insertFence(0), 1);
        Check.equal("a second define", Check.define(x, "loc z 1;thread;store z 2;exists z<2;"), 1);
        Check.equal("threads", x.threadCount(), 1);
        Check.equal("locations", x.locationCount(), 1);
        Check.equal("undo after define", x.undo(), -1);
        Check.equal("matchCount", x.matchCount(0), 0);
        Check.equal("a third define, without a condition", Check.define(x, "loc z 1;thread;store z 2;"), 1);
        Check.equal("matchCount", x.matchCount(0), 1);
        Check.equal("an empty text", x.define(), 0);
        Check.equal("locations", x.locationCount(), 0);
    }

    private static void defineKeepsWhatStands() {
        LitmusTester x = Check.defined(BUFFERING + "exists 0:r0 = 0;");
        x.insertFence(1);
        x.explain(0, 69);
        int matches = x.matchCount(1);
        String text = Check.written(x);
        Check.equal("an error late in the text", Check.define(x, "loc z 2;thread;store z 1;exists z = 1 and;"), -329);
        Check.equal("written", Check.written(x), text);
        Check.equal("matchCount", x.matchCount(1), matches);
        Check.equal("explanation", x.step(0), 0);
        Check.equal("undo", x.undo(), 0);
    }

    private static void tokens() {
        due("\n loc\nx  0 ;thread;store x 1;exists(x=1);\n", 1);
        due("loc x 0;thread;load r0 x;exists 0:r0=1and x=1or not(x<2);", 1);
        due("loc x 03;", 0);
        due("loc x 00;", 0);
        due("loc abcdefgh 0;", 0);
        due("loc r 0;thread;load r0 r;", 1);
        due("loc x 0;thread;store x 1;exists 00:r0=1;", -(8 * 35 + 4));
        error("loc abcdefghi 0;", 4, 1);
        error("loc x1 0;", 4, 1);
        error("loc r2 0;", 4, 1);
        error("loc r0 0;", 4, 1);
        error("loc r00 0;", 4, 1);
        error("loc X 0;", 4, 1);
        error("loc x 000;", 6, 1);
        error("loc x 100;", 6, 1);
        error("loc\tx 0;", 3, 1);
        error("loc x 0;\r", 8, 1);
        error("loc x 0;\u0000", 8, 1);
        error("loc x 0;\u00ff", 8, 1);
        error("loc x -1;", 6, 1);
        error("locx 0;", 0, 1);
        error("loc x0;", 4, 1);
        error("loc x 0,", 7, 1);
    }

    private static void errorsOfTokensAndGrammar() {
        for (String quoted : new String[] {"loc", "thread", "store", "load", "swap", "fence", "exists", "or", "and", "not"}) {
            error("loc " + quoted + " 0;", 4, 1);
            error("loc x 0;thread;store " + quoted + " 1;", 21, 1);
        }
        error("loc", 3, 1);
        error("loc x  ", 7, 1);
        error("thread", 6, 1);
        error("store x 1;", 0, 1);
        error("thread;loc x 0;", 7, 1);
        error("exists x=1;", 7, 4);
        error("loc x 0;exists x=1", 18, 1);
        error("loc x 0;exists x=1;thread;", 19, 1);
        error("loc x 0;exists;", 14, 1);
        error("loc x 0;exists x;", 16, 1);
        error("loc x 0;exists x:1;", 16, 1);
        error("loc x 0;exists x=y;", 17, 1);
        error("loc x 0;exists (x=1;", 19, 1);
        error("loc x 0;exists x=1);", 18, 1);
        error("loc x 0;exists x=1 x=1;", 19, 1);
        error("loc x 0;exists not;", 18, 1);
        error("loc x 0;exists ();", 16, 1);
        error("loc x 0;thread;store x 1;exists 0;", 33, 1);
        error("loc x 0;thread;store x 1;exists 0:x=1;", 34, 1);
        error("loc x 0;thread;store x;", 22, 1);
        error("loc x 0;thread;store x 1", 24, 1);
        error("loc x 0;thread;load x r0;", 20, 1);
        error("loc x 0;thread;load r0 x 1;", 25, 1);
        error("loc x 0;thread;swap r0 x;", 24, 1);
        error("loc x 0;thread;store r0 1;", 21, 1);
        error("thread;fence fence;", 13, 1);
        error("thread fence;", 7, 1);
        error(";", 0, 1);
    }

    private static void errorsOfValues() {
        error("loc x 4;", 6, 2);
        error("loc x 99;", 6, 2);
        error("loc x 0;thread;store x 4;", 23, 2);
        error("loc x 0;thread;swap r0 x 10;", 25, 2);
        error("loc x 0;exists x=4;", 17, 2);
        error("loc x 0;exists x<4;", 17, 2);
        due("loc x 0;exists x<3;", 0);
        error("exists 0:r0=1;", 7, 2);
        error("loc x 0;thread;load r0 x;exists 1:r0=1;", 32, 2);
        error("loc x 0;thread;load r0 x;exists 1 r0=1;", 32, 2);
    }

    private static void errorsOfNames() {
        error("loc x 0;loc x 0;", 12, 3);
        error("loc x 0;loc y 0;loc x 4;", 20, 3);
        error("loc x 0;thread;load r0 x;load r0 x;", 30, 3);
        error("loc x 0;thread;swap r1 x 1;load r1 x;", 32, 3);
        due("loc x 0;thread;load r0 x;thread;load r0 x;", 2);
        error("thread;store x 1;", 13, 4);
        error("loc x 0;thread;load r0 y;", 23, 4);
        error("loc x 0;thread;swap r0 y 1;", 23, 4);
        error("loc x 0;exists y=1;", 15, 4);
        error("loc x 0;thread;store x r0;", 23, 4);
        error("loc x 0;thread;load r0 x;store x r1;", 33, 4);
        error("loc x 0;thread;swap r0 x r0;", 25, 4);
        error("loc x 0;thread;load r0 x;thread;store x r0;", 40, 4);
        due("loc x 0;thread;load r0 x;swap r1 x r0;store x r1;", 3);
        error("loc x 0;thread;load r0 x;exists 0:r1=1;", 34, 4);
        error("loc x 0;thread;load r0 x;thread;load r1 x;exists 1:r0=1;", 51, 4);
    }

    private static void tooMany() {
        error("loc a 0;loc b 0;loc c 0;loc d 0;", 24, 5);
        error("loc a 0;loc b 0;loc c 0;loc", 24, 5);
        error("thread;thread;thread;thread;thread;", 28, 5);
        String six = "thread;" + "fence;".repeat(6);
        due(six + "fence;", 7);
        error(six + "fence;fence;", 7 + 42, 5);
        error(six + "fence;store", 7 + 42, 5);
        String x = "loc x 0;";
        String four = "thread;store x 1;store x 2;store x 3;load r0 x;";
        due(x + four, 4);
        error(x + four + "store x 1;", 8 + 47, 5);
        due(x + four + "fence;fence;fence;", 7);
        due(x + four + four, 8);
        error(x + four + four + "thread;store x 1;", 8 + 94 + 7, 5);
        due(x + four + four + "thread;fence;fence;", 10);
        error(x + four + four + "thread;fence;fence;fence;", 8 + 94 + 19, 5);
        error(x + four + four + "thread;fence;fence;thread;swap", 8 + 94 + 26, 5);
    }

    private static void tooManyUnits() {
        String x = "loc x 0;exists ";
        due(x + "x=1" + " or x=1".repeat(15) + ";", 0);
        error(x + "x=1" + " or x=1".repeat(16) + ";", 15 + 3 + 7 * 15 + 4, 5);
        error(x + "x=1" + " and x=1".repeat(16) + ";", 15 + 3 + 8 * 15 + 5, 5);
        due(x + "not not not not x=1;", 0);
        error(x + "not not not not not x=1;", 35, 1 + 4);
        due(x + "((((x=1))));", 0);
        error(x + "(((((x=1)))));", 20, 5);
        due(x + "not(not(x=1));", 0);
        error(x + "(not(not(x=1)));", 24, 5);
        // 5 groups of 3 units and one more are 16.
        String groups = "not(x=1)" + " or not(x=1)".repeat(4);
        due(x + groups + " or x=0;", 0);
        error(x + groups + " or x=0 or not x=0;", 15 + groups.length() + 11, 5);
        error(x + groups + " or x=0 or (x=0);", 15 + groups.length() + 11, 5);
        due(x + "(((x=1) and x=1) or x=1);", 0);
    }

    private static void leastKind() {
        String x = "loc x 0;exists ";
        error(x + "not not not not not y=1;", 35, 4);
        error(x + "not not not not not 0:r0=1;", 35, 2);
        error(x + "not not not not not ;", 35, 1);
        error(x + "x=1" + " or x=1".repeat(15) + " or y=1;", 15 + 3 + 7 * 15 + 4, 4);
        error("loc x 0;thread;load r0 x;exists 9:r1=1;", 32, 2);
        error("loc x 0;loc loc 9;", 12, 1);
        error("loc x 9;loc x 9;", 6, 2);
    }

    private static void counts() {
        LitmusTester x = Check.defined("loc x 0;loc y 1;loc z 2;thread;thread;fence;store x 1;thread;thread;");
        Check.equal("threadCount", x.threadCount(), 4);
        Check.equal("locationCount", x.locationCount(), 3);
        Check.equal("instructionCount", x.instructionCount(), 2);
        x.removeFence(0);
        Check.equal("instructionCount", x.instructionCount(), 1);
        Check.equal("threadCount", x.threadCount(), 4);
        Check.define(x, "thread;");
        Check.equal("threadCount", x.threadCount(), 1);
        Check.equal("locationCount", x.locationCount(), 0);
    }

    private static void instruction() {
        LitmusTester x = Check.defined("loc a 0;loc b 0;thread;fence;load r1 b;thread;thread;store a 3;swap r0 b 2;"
                + "swap r1 a r0;store b r1;");
        int[][] due = {{0, 3, -1, -1, -1, -1}, {0, 1, 1, 1, -1, -1}, {2, 0, 0, -1, 3, -1}, {2, 2, 1, 0, 2, -1},
            {2, 2, 0, 1, -1, 0}, {2, 0, 1, -1, -1, 1}};
        for (int i = 0; i < due.length; i++) {
            for (int what = 0; what < 6; what++) {
                Check.equal("instruction " + i + " " + what, x.instruction(i, what), due[i][what]);
            }
            for (int what : new int[] {-1, 6, 7, Integer.MIN_VALUE, Integer.MAX_VALUE}) {
                Check.equal("instruction " + i + " " + what, x.instruction(i, what), -1);
            }
        }
        for (int i : new int[] {-1, 6, 10, Integer.MIN_VALUE, Integer.MAX_VALUE}) {
            Check.thrown("instruction " + i, IndexOutOfBoundsException.class, () -> x.instruction(i, 0));
            Check.thrown("instruction " + i, IndexOutOfBoundsException.class, () -> x.instruction(i, 9));
        }
    }

    private static void findLocation() {
        LitmusTester x = Check.defined("loc x 0;loc abcdefgh 0;loc xy 0;");
        Check.equal("x", Check.findLocation(x, "x"), 0);
        Check.equal("abcdefgh", Check.findLocation(x, "abcdefgh"), 1);
        Check.equal("xy", Check.findLocation(x, "xy"), 2);
        for (String other : new String[] {"", "y", "abcdefg", "abcdefghi", "xyz", " x", "x ", "x\n", "X", "x0", "x;", "loc",
            "xx", "yx", "\u00f8", "x\u0000", "`", "{", "xabcdefgh"}) {
            Check.equal("<" + other + ">", Check.findLocation(x, other), -1);
            Check.equal("bufferLength", x.bufferLength(), 0);
        }
        Check.equal("no longer declared", Check.define(x, "loc z 0;"), 0);
        Check.equal("x", Check.findLocation(x, "x"), -1);
        Check.equal("xy", Check.findLocation(x, "xy"), -1);
        Check.equal("z", Check.findLocation(x, "z"), 0);
        Check.equal("no program", Check.findLocation(new LitmusTester(), "x"), -1);
        Check.equal("no letters, no program", new LitmusTester().findLocation(), -1);
    }

    private static void write() {
        LitmusTester x = Check.defined(" loc  x 03 ;\nloc abcdefgh 0; thread ;store x 02;load r1 abcdefgh; fence;thread;\n"
                + "thread;swap r0 x 1;swap r1 x r0; store x r1;exists x=1;");
        String due = "loc x 3;loc abcdefgh 0;thread;store x 2;load r1 abcdefgh;fence;thread;thread;swap r0 x 1;"
                + "swap r1 x r0;store x r1;";
        Check.equal("write", x.write(), due.length());
        Check.equal("written", Check.written(x), due);
        Check.equal("written once more", Check.written(x), due);
        x.insertFence(0);
        String fenced = due.replace("store x 2;", "store x 2;fence;");
        Check.equal("written with a fence", Check.written(x), fenced);
        Check.equal("define", Check.define(x, fenced), 7);
        Check.equal("written", Check.written(x), fenced);
        Check.equal("a program of nothing", new LitmusTester().write(), 0);
        Check.put(x, "thread;");
        x.define();
        Check.equal("shorter", x.write(), 7);
        Check.thrown("what was longer", NoSuchElementException.class, () -> x.outputByte(7));
        longest();
    }

    private static void longest() {
        String text = "loc abcdefgh 3;loc bbbbbbbb 3;loc cccccccc 3;"
                + "thread;load r0 abcdefgh;swap r1 bbbbbbbb r0;store cccccccc r0;store cccccccc r1;fence;fence;"
                + "thread;load r1 abcdefgh;swap r0 bbbbbbbb r1;store cccccccc r0;store cccccccc r1;thread;thread;";
        LitmusTester x = Check.defined(text);
        Check.equal("written", Check.written(x), text);
    }

    private static void outputByte() {
        LitmusTester x = Check.defined("loc x 0;");
        Check.thrown("before write", NoSuchElementException.class, () -> x.outputByte(0));
        x.write();
        Check.equal("first", x.outputByte(0), (int) 'l');
        Check.equal("last", x.outputByte(7), (int) ';');
        for (int index : new int[] {-1, 8, 319, 320, 1000, Integer.MIN_VALUE, Integer.MAX_VALUE}) {
            Check.thrown("outputByte " + index, NoSuchElementException.class, () -> x.outputByte(index));
        }
        Check.define(x, "loc y 0;loc z 0;");
        Check.equal("the output stays", x.outputByte(4), (int) 'x');
    }
}
