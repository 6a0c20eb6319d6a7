import java.nio.charset.StandardCharsets;
import java.util.ArrayList;
import java.util.List;
import java.util.Objects;

/** What the tests share: comparing, calling, and texts instead of ints. */
final class Check {
    private static final List<String> FAULTS = new ArrayList<>();
    private static int compared = 0;

    private Check() {
    }

    interface Call {
        Object answer();
    }

    static void equal(String what, Object got, Object due) {
        compared++;
        if (!Objects.equals(got, due)) {
            FAULTS.add(what + " answered " + got + ", due is " + due);
        }
    }

    static void yes(String what, boolean got) {
        equal(what, got, true);
    }

    static void no(String what, boolean got) {
        equal(what, got, false);
    }

    /** Exactly this class of exception is due, none above and none below it. */
    static void thrown(String what, Class<? extends RuntimeException> due, Call call) {
        Object got;
        try {
            got = call.answer();
        } catch (RuntimeException e) {
            got = e.getClass();
        }
        equal(what, got, due);
    }

    /** Puts a text into the buffer of the tester. */
    static void put(LitmusTester tester, String text) {
        putBytes(tester, text.getBytes(StandardCharsets.ISO_8859_1));
    }

    static void putBytes(LitmusTester tester, byte[] bytes) {
        int before = tester.bufferLength();
        for (int at = 0; at < bytes.length; at += 20) {
            int[] fours = new int[5];
            for (int i = 0; i < 20; i++) {
                int next = at + i < bytes.length ? bytes[at + i] & 255 : 0;
                fours[i / 4] = fours[i / 4] << 8 | next;
            }
            tester.append(fours[0], fours[1], fours[2], fours[3], fours[4]);
        }
        tester.truncate(before + bytes.length);
    }

    static int define(LitmusTester tester, String text) {
        put(tester, text);
        return tester.define();
    }

    static LitmusTester defined(String text) {
        LitmusTester tester = new LitmusTester();
        int answer = define(tester, text);
        yes("define of " + text + " (" + answer + ")", answer >= 0);
        return tester;
    }

    static int findLocation(LitmusTester tester, String name) {
        put(tester, name);
        return tester.findLocation();
    }

    static String written(LitmusTester tester) {
        StringBuilder text = new StringBuilder();
        int length = tester.write();
        for (int i = 0; i < length; i++) {
            text.append((char) tester.outputByte(i));
        }
        return text.toString();
    }

    static List<Integer> outcomes(LitmusTester tester, int model) {
        List<Integer> codes = new ArrayList<>();
        int count = tester.outcomeCount(model);
        for (int i = 0; i < count; i++) {
            codes.add(tester.outcome(model, i));
        }
        return codes;
    }

    static List<Integer> steps(LitmusTester tester) {
        List<Integer> steps = new ArrayList<>();
        for (int i = 0; tester.step(i) != LitmusTester.NONE; i++) {
            steps.add(tester.step(i));
        }
        return steps;
    }

    /** Prints what is not as due, and ends the machine with 1 if there is anything. */
    static void end() {
        for (int i = 0; i < FAULTS.size() && i < 20; i++) {
            System.out.println(FAULTS.get(i));
        }
        System.out.println(compared + " answers compared, " + FAULTS.size() + " not as due");
        if (!FAULTS.isEmpty()) {
            System.exit(1);
        }
    }
}
