import java.util.NoSuchElementException;

/** Promises 28 to 36: gaps, sets of fences, and changes. */
public final class FencesTest {
    private static final String BUFFERING = "loc x 0;loc y 0;thread;store x 1;load r0 y;thread;store y 1;load r0 x;";
    private static final String FORBIDDEN = "exists 0:r0=0 and 1:r0=0;";
    private static final int[] WRONG = {-1, 10, Integer.MIN_VALUE, Integer.MAX_VALUE};

    public static void main(String[] args) {
        gaps();
        matchesWith();
        matchesWithBeyondTheLimits();
        fewestFences();
        leastOfSeveralSets();
        repairingFences();
        isFenceNeeded();
        insertFence();
        noRoomForAFence();
        removeFence();
        undo();
        undoOfNineChanges();
        undoBringsBackAnEmptyThread();
        changesChangeTheAnswers();
        Check.end();
    }

    private static void gaps() {
        LitmusTester x = Check.defined("loc x 0;thread;store x 1;store x 2;fence;load r0 x;load r1 x;thread;fence;fence;"
                + "thread;store x 1;thread;store x 2;");
        Check.equal("gapCount", x.gapCount(), 2);
        Check.equal("gapBefore", x.gapBefore(0), 1);
        Check.equal("gapBefore", x.gapBefore(1), 4);
        for (int gap : new int[] {-1, 2, 10, Integer.MIN_VALUE, Integer.MAX_VALUE}) {
            Check.equal("gapBefore " + gap, x.gapBefore(gap), -1);
        }
        LitmusTester most = Check.defined("loc x 0;thread;store x 1;store x 1;store x 1;store x 1;"
                + "thread;store x 1;store x 1;store x 1;store x 1;");
        Check.equal("gapCount", most.gapCount(), 6);
        Check.equal("gapBefore", most.gapBefore(3), 5);
        Check.equal("gapBefore", most.gapBefore(5), 7);
        Check.equal("matchesWith all", most.matchesWith(2, 63), 1);
        Check.thrown("matchesWith more", IllegalArgumentException.class, () -> most.matchesWith(2, 64));
    }

    private static void matchesWith() {
        LitmusTester x = Check.defined(BUFFERING + FORBIDDEN);
        for (int model = 1; model < 3; model++) {
            Check.equal("no fence", x.matchesWith(model, 0), 1);
            Check.equal("one fence", x.matchesWith(model, 1), 1);
            Check.equal("the other fence", x.matchesWith(model, 2), 1);
            Check.equal("both fences", x.matchesWith(model, 3), 0);
        }
        Check.equal("model 0", x.matchesWith(0, 1), 0);
        for (int gaps : new int[] {4, 5, 8, 1 << 30, -1, Integer.MIN_VALUE, Integer.MAX_VALUE}) {
            Check.thrown("matchesWith " + gaps, IllegalArgumentException.class, () -> x.matchesWith(1, gaps));
        }
        Check.equal("nothing is inserted", x.instructionCount(), 4);
        Check.equal("nothing is inserted", x.matchCount(1), 1);
        Check.equal("nothing can be undone", x.undo(), -1);
    }

    private static void matchesWithBeyondTheLimits() {
        LitmusTester x = Check.defined("loc x 0;loc y 0;thread;store x 1;load r0 y;fence;fence;fence;fence;fence;"
                + "thread;store y 1;load r0 x;" + FORBIDDEN);
        Check.equal("a thread of 8, a program of 11", x.matchesWith(1, 3), 0);
        Check.equal("a thread of 8", x.matchesWith(1, 1), 1);
        Check.equal("fewestFences", x.fewestFences(2), 3);
    }

    private static void fewestFences() {
        LitmusTester x = Check.defined(BUFFERING + FORBIDDEN);
        Check.equal("model 0", x.fewestFences(0), 0);
        Check.equal("model 1", x.fewestFences(1), 3);
        Check.equal("model 2", x.fewestFences(2), 3);
        LitmusTester passing = Check.defined("loc x 0;loc y 0;thread;store x 1;store y 1;thread;load r0 y;load r1 x;"
                + "exists 1:r0=1 and 1:r1=0;");
        Check.equal("nothing to forbid", passing.fewestFences(1), 0);
        Check.equal("one fence", passing.fewestFences(2), 1);
        LitmusTester all = Check.defined(BUFFERING);
        Check.equal("every outcome", all.fewestFences(0), -1);
        Check.equal("every outcome", all.fewestFences(2), -1);
        LitmusTester none = Check.defined("loc x 0;thread;exists x=1;");
        Check.equal("no gap", none.fewestFences(1), 0);
    }

    private static void leastOfSeveralSets() {
        // Between the two stores, or between the second one and the load: a fence in either gap is enough.
        LitmusTester x = Check.defined("loc x 0;loc y 0;loc z 0;thread;store x 1;store z 1;load r0 y;"
                + "thread;store y 1;fence;load r0 x;" + FORBIDDEN);
        Check.equal("a fence in the first gap", x.matchesWith(1, 1), 0);
        Check.equal("a fence in the second gap", x.matchesWith(1, 2), 0);
        Check.equal("the least mask", x.fewestFences(1), 1);
        LitmusTester y = Check.defined("loc x 0;loc y 0;loc z 0;thread;store z 1;store x 1;load r0 y;"
                + "thread;store y 1;fence;load r0 x;" + FORBIDDEN);
        Check.equal("before the store it does not help", y.fewestFences(1), 2);
    }

    private static void repairingFences() {
        LitmusTester x = Check.defined(BUFFERING);
        Check.equal("model 0", x.repairingFences(0), 0);
        Check.equal("model 1", x.repairingFences(1), 3);
        LitmusTester passing = Check.defined("loc x 0;loc y 0;thread;store x 1;store y 1;thread;load r0 y;load r1 x;");
        Check.equal("model 1", passing.repairingFences(1), 0);
        Check.equal("model 2", passing.repairingFences(2), 1);
        Check.equal("nothing", new LitmusTester().repairingFences(2), 0);
        LitmusTester all = Check.defined("loc x 0;loc y 0;loc z 0;thread;store y 3;store x 1;store z 3;load r0 y;"
                + "thread;store x 2;store y 2;store z 1;load r0 x;");
        Check.equal("all six gaps", all.repairingFences(2), 63);
        Check.equal("behind the last stores", all.repairingFences(1), 36);
        LitmusTester fenced = Check.defined("loc x 0;loc y 0;thread;store x 1;fence;load r0 y;thread;store y 1;load r0 x;");
        Check.equal("the other one", fenced.repairingFences(2), 1);
    }

    private static void isFenceNeeded() {
        LitmusTester x = Check.defined("loc x 0;loc y 0;thread;fence;store x 1;fence;fence;load r0 y;"
                + "thread;store y 1;fence;load r0 x;");
        boolean[] due = {false, false, false, false, false, false, true};
        for (int model = 0; model < 3; model++) {
            for (int fence : new int[] {0, 2, 3, 6}) {
                Check.equal("isFenceNeeded " + model + " " + fence, x.isFenceNeeded(model, fence), model > 0 && due[fence]);
            }
        }
        for (int other : new int[] {1, 4, 5, 7}) {
            Check.thrown("isFenceNeeded", NoSuchElementException.class, () -> x.isFenceNeeded(1, other));
        }
        for (int wrong : WRONG) {
            Check.thrown("isFenceNeeded", IndexOutOfBoundsException.class, () -> x.isFenceNeeded(1, wrong));
        }
        Check.thrown("isFenceNeeded", IndexOutOfBoundsException.class, () -> x.isFenceNeeded(1, 8));
        Check.equal("no fence is removed", x.instructionCount(), 8);
        x.removeFence(2);
        Check.yes("now it is needed", x.isFenceNeeded(1, 2));
        Check.yes("now it is needed", x.isFenceNeeded(2, 2));
    }

    private static void insertFence() {
        LitmusTester x = Check.defined(BUFFERING);
        Check.equal("into the second gap", x.insertFence(1), 3);
        Check.equal("written", Check.written(x), "loc x 0;loc y 0;thread;store x 1;load r0 y;thread;store y 1;fence;load r0 x;");
        Check.equal("gapCount", x.gapCount(), 1);
        for (int gap : new int[] {-1, 1, 2, Integer.MIN_VALUE, Integer.MAX_VALUE}) {
            Check.thrown("insertFence " + gap, IndexOutOfBoundsException.class, () -> x.insertFence(gap));
        }
        Check.equal("into the first gap", x.insertFence(0), 1);
        Check.equal("written", Check.written(x),
                "loc x 0;loc y 0;thread;store x 1;fence;load r0 y;thread;store y 1;fence;load r0 x;");
        Check.equal("its kind", x.instruction(4, 1), 3);
        Check.equal("its thread", x.instruction(4, 0), 1);
        for (int what = 2; what < 6; what++) {
            Check.equal("its property " + what, x.instruction(4, what), -1);
        }
    }

    private static void noRoomForAFence() {
        LitmusTester x = Check.defined("loc x 0;thread;store x 1;store x 2;fence;fence;fence;fence;fence;thread;store x 1;store x 2;");
        Check.thrown("a thread of 7", IllegalStateException.class, () -> x.insertFence(0));
        Check.thrown("no such gap", IndexOutOfBoundsException.class, () -> x.insertFence(2));
        Check.equal("nothing to undo", x.undo(), -1);
        Check.equal("the other thread", x.insertFence(1), 8);
        Check.equal("now the program has 10", x.instructionCount(), 10);
        LitmusTester y = Check.defined("loc x 0;thread;store x 1;store x 2;fence;fence;fence;fence;thread;fence;fence;store x 1;store x 2;");
        Check.thrown("a program of 10", IllegalStateException.class, () -> y.insertFence(1));
        Check.thrown("a program of 10", IllegalStateException.class, () -> y.insertFence(0));
        Check.thrown("no such gap", IndexOutOfBoundsException.class, () -> y.insertFence(-1));
        Check.equal("removeFence", y.removeFence(2), 9);
        Check.equal("now there is room", y.insertFence(1), 8);
    }

    private static void removeFence() {
        LitmusTester x = Check.defined("loc x 0;thread;fence;store x 1;fence;load r0 x;thread;fence;");
        Check.thrown("a store", NoSuchElementException.class, () -> x.removeFence(1));
        Check.thrown("a load", NoSuchElementException.class, () -> x.removeFence(3));
        Check.thrown("none", IndexOutOfBoundsException.class, () -> x.removeFence(5));
        for (int wrong : WRONG) {
            Check.thrown("none", IndexOutOfBoundsException.class, () -> x.removeFence(wrong));
        }
        Check.equal("nothing to undo", x.undo(), -1);
        Check.equal("the middle one", x.removeFence(2), 4);
        Check.equal("written", Check.written(x), "loc x 0;thread;fence;store x 1;load r0 x;thread;fence;");
        Check.equal("the last one", x.removeFence(3), 3);
        Check.equal("the first one", x.removeFence(0), 2);
        Check.equal("written", Check.written(x), "loc x 0;thread;store x 1;load r0 x;thread;");
        Check.equal("gapCount", x.gapCount(), 1);
    }

    private static void undo() {
        LitmusTester x = Check.defined(BUFFERING);
        String first = Check.written(x);
        x.insertFence(0);
        String second = Check.written(x);
        x.insertFence(0);
        String third = Check.written(x);
        x.removeFence(1);
        Check.equal("undo", x.undo(), 2);
        Check.equal("written", Check.written(x), third);
        Check.equal("undo", x.undo(), 1);
        Check.equal("written", Check.written(x), second);
        Check.equal("an undo is no change", x.undo(), 0);
        Check.equal("written", Check.written(x), first);
        Check.equal("undo", x.undo(), -1);
        Check.equal("written", Check.written(x), first);
        x.insertFence(1);
        Check.equal("a change after them", x.undo(), 0);
    }

    private static void undoOfNineChanges() {
        LitmusTester x = Check.defined(BUFFERING);
        x.insertFence(1);
        String afterOne = Check.written(x);
        for (int i = 0; i < 4; i++) {
            x.insertFence(0);
            x.removeFence(1);
        }
        for (int left = 7; left >= 0; left--) {
            Check.equal("undo", x.undo(), left);
        }
        Check.equal("undo", x.undo(), -1);
        Check.equal("the first change stays", Check.written(x), afterOne);
    }

    private static void undoBringsBackAnEmptyThread() {
        String text = "loc x 0;thread;store x 1;thread;fence;thread;fence;thread;store x 2;";
        LitmusTester x = Check.defined(text);
        x.removeFence(2);
        x.removeFence(1);
        Check.equal("written", Check.written(x), "loc x 0;thread;store x 1;thread;thread;thread;store x 2;");
        x.undo();
        Check.equal("written", Check.written(x), "loc x 0;thread;store x 1;thread;fence;thread;thread;store x 2;");
        x.undo();
        Check.equal("written", Check.written(x), text);
    }

    private static void changesChangeTheAnswers() {
        LitmusTester x = Check.defined(BUFFERING + FORBIDDEN);
        Check.equal("outcomeCount", x.outcomeCount(1), 4);
        Check.equal("fewestFences", x.fewestFences(1), 3);
        x.insertFence(0);
        Check.equal("outcomeCount", x.outcomeCount(1), 4);
        Check.equal("fewestFences", x.fewestFences(1), 1);
        Check.equal("matchesWith", x.matchesWith(1, 1), 0);
        x.insertFence(0);
        Check.equal("outcomeCount", x.outcomeCount(1), 3);
        Check.equal("matchCount", x.matchCount(1), 0);
        Check.equal("fewestFences", x.fewestFences(1), 0);
        Check.equal("greatestBuffer", x.greatestBuffer(1, 0), 1);
        x.undo();
        Check.equal("outcomeCount", x.outcomeCount(1), 4);
        Check.equal("fewestFences", x.fewestFences(1), 1);
        Check.equal("executionCount of model 0", x.executionCount(0), 10L);
        x.removeFence(1);
        Check.equal("executionCount of model 0", x.executionCount(0), 6L);
    }
}
