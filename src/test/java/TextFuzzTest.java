import java.util.Arrays;
import java.util.regex.Matcher;
import java.util.regex.Pattern;

/** Spoils texts in many ways, and compares what define() answers with a reader that collects all errors. */
public final class TextFuzzTest {
    private static final String[] PIECES = {"loc", "thread", "store", "load", "swap", "fence", "exists", "or", "and",
        "not", ";", ":", "=", "<", "(", ")", "r0", "r1", "r2", "x", "y", "flag", "r", "0", "1", "3", "4", "03", "003", "12",
        " ", "\n", "\t", "abcdefghi", "x1", "A", "\u00e9", "\u0000", "loc q 0;", "thread;", "fence;", "store x 1;",
        "load r0 x;", "load r1 x;", "swap r0 x r0;", "not ", "(", "( x = 1 )", "x<2", "0:r0=1", "3:r1 = 0", " and x = 1",
        " or not x < 1"};
    private static final int[] KINDS = new int[8];

    public static void main(String[] args) {
        int rounds = args.length > 0 ? Integer.parseInt(args[0]) : 40000;
        Dice dice = new Dice(args.length > 1 ? Long.parseLong(args[1]) : 3);
        LitmusTester tester = new LitmusTester();
        for (int round = 0; round < rounds; round++) {
            if (round % 60 == 0) {
                tester = new LitmusTester();
            }
            compare(tester, spoilt(dice, 4 + dice.below(6), dice.below(4)));
        }
        System.out.println("answers by kind of error: " + Arrays.toString(KINDS));
        for (int kind = 0; kind <= 5; kind++) {
            Check.yes("kind " + kind + " is met often", KINDS[kind] > rounds / 200);
        }
        Check.end();
    }

    private static void compare(LitmusTester tester, String text) {
        int due = SlowReader.due(text);
        String before = Check.written(tester);
        int got = Check.define(tester, text);
        Check.equal("define of <" + text + ">", got, due);
        Check.equal("length afterwards", tester.bufferLength(), 0);
        KINDS[due < 0 ? -due & 7 : 0]++;
        if (due < 0) {
            Check.equal("program after an error", Check.written(tester), before);
        } else {
            Check.equal("size", tester.instructionCount(), due);
        }
    }

    /** A text of a random program, changed in some places (in none, if there are no spoils). */
    static String spoilt(Dice dice, int accesses, int spoils) {
        Naive.Prog prog = dice.program(accesses);
        StringBuilder text = new StringBuilder(prog.text());
        if (dice.below(2) == 0) {
            text.append("exists ").append(Condition.some(dice, prog, dice.below(6)).text(2));
            String more = dice.below(2) == 0 ? " or " : " and ";
            for (int units = dice.below(4) == 0 ? 10 + dice.below(8) : 0; units > 0; units--) {
                text.append(more).append(Condition.some(dice, prog, 0).text(0));
                more = dice.below(8) == 0 ? " or " : more;
            }
            text.append(";");
        }
        for (int i = 0; i < spoils; i++) {
            spoil(dice, text);
        }
        if (spoils > 0 && dice.below(3) == 0) {
            text.append(PIECES[dice.below(PIECES.length)]);
        }
        return text.substring(0, Math.min(600, text.length()));
    }

    private static void spoil(Dice dice, StringBuilder text) {
        if (dice.below(3) != 0) {
            exchange(dice, text);
            return;
        }
        int at = dice.below(text.length() + 1);
        // Mostly whole tokens are changed, so that what follows still has a sense.
        boolean whole = dice.below(4) != 0;
        while (whole && at > 0 && at < text.length() && Character.isLetterOrDigit(text.charAt(at))
                && Character.isLetterOrDigit(text.charAt(at - 1))) {
            at--;
        }
        String piece = PIECES[dice.below(PIECES.length)];
        int end = Math.min(text.length(), at + 1);
        while (whole && end < text.length() && Character.isLetterOrDigit(text.charAt(end - 1))
                && Character.isLetterOrDigit(text.charAt(end))) {
            end++;
        }
        switch (dice.below(4)) {
            case 0:
                text.insert(at, piece);
                break;
            case 1:
                text.replace(at, end, piece);
                break;
            case 2:
                text.delete(at, end);
                break;
            default:
                int semicolon = text.indexOf(";", at);
                text.insert(semicolon < 0 ? at : semicolon + 1, piece);
        }
    }

    /** Puts another token of the same kind where one stands, so that the grammar has nothing to say. */
    private static void exchange(Dice dice, StringBuilder text) {
        String[][] kinds = {{"0", "1", "3", "4", "9", "12", "03"}, {"r0", "r1"}, {"x", "y", "flag", "lock", "q"}};
        String[] patterns = {"[0-9]+", "r[01]", "x|y|flag|lock|abcdefgh|r"};
        int kind = dice.below(3);
        Matcher matcher = Pattern
                .compile("(?<![a-z0-9])(" + patterns[kind] + ")(?![a-z0-9])").matcher(text.toString());
        int skipped = dice.below(12);
        for (int i = 0; i <= skipped && matcher.find(); i++) {
            if (i == skipped) {
                text.replace(matcher.start(), matcher.end(), kinds[kind][dice.below(kinds[kind].length)]);
            }
        }
    }
}
