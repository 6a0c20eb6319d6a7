import java.util.List;
import java.util.NoSuchElementException;

/** Promises 37 to 40: the explanation. */
public final class ExplanationTest {
    private static final String BUFFERING = "loc x 0;loc y 0;thread;store x 1;load r0 y;thread;store y 1;load r0 x;";

    public static void main(String[] args) {
        firstExecution();
        noSuchExecution();
        whatRemovesIt();
        step();
        readsFromBuffers();
        readsFrom();
        writtenBy();
        commitsOutOfOrder();
        Check.end();
    }

    private static void firstExecution() {
        LitmusTester x = Check.defined(BUFFERING);
        Check.equal("explain", x.explain(0, 69), 4);
        Check.equal("steps", Check.steps(x), List.of(0, 0, 10, 10));
        Check.equal("explain", x.explain(0, 1093), 4);
        Check.equal("steps", Check.steps(x), List.of(0, 10, 0, 10));
        Check.equal("explain", x.explain(0, 1029), 4);
        Check.equal("steps", Check.steps(x), List.of(10, 10, 0, 0));
        Check.equal("explain", x.explain(1, 69), 6);
        Check.equal("steps", Check.steps(x), List.of(0, 0, 1, 10, 10, 12));
        Check.equal("explain", x.explain(1, 5), 6);
        Check.equal("steps", Check.steps(x), List.of(0, 0, 10, 10, 1, 12));
        LitmusTester none = new LitmusTester();
        Check.equal("an execution without steps", none.explain(1, 0), 0);
        Check.equal("step", none.step(0), -1);
        LitmusTester fence = Check.defined("loc x 0;loc y 0;loc z 0;thread;fence;store z 2;fence;thread;fence;");
        Check.equal("explain", fence.explain(2, 2), 5);
        Check.equal("steps", Check.steps(fence), List.of(0, 0, 3, 0, 10));
    }

    private static void noSuchExecution() {
        LitmusTester x = Check.defined(BUFFERING);
        Check.equal("explain", x.explain(0, 5), -1);
        Check.equal("step", x.step(0), -1);
        Check.equal("writtenBy", x.writtenBy(0, 0), -1);
        Check.thrown("readsFrom", NoSuchElementException.class, () -> x.readsFrom(1));
        x.explain(1, 5);
        for (int code : new int[] {-1, 0, 6, 4101, Integer.MIN_VALUE, Integer.MAX_VALUE}) {
            Check.equal("explain", x.explain(1, code), -1);
        }
        Check.equal("explain", x.explain(0, 5), -1);
        Check.thrown("explain", IllegalArgumentException.class, () -> x.explain(3, 69));
        Check.equal("the former one stays", Check.steps(x), List.of(0, 0, 10, 10, 1, 12));
        Check.equal("the former one stays", x.writtenBy(0, 0), 0);
        Check.equal("the former one stays", x.readsFrom(1), -1);
    }

    private static void absent(String what, LitmusTester x) {
        Check.equal("step after " + what, x.step(0), -1);
        Check.equal("writtenBy after " + what, x.writtenBy(0, 0), -1);
        int loads = 0;
        for (int i = 0; i < x.instructionCount(); i++) {
            int instruction = i;
            if (x.instruction(i, 1) == 1) {
                loads++;
                Check.thrown("readsFrom after " + what, NoSuchElementException.class, () -> x.readsFrom(instruction));
            }
        }
        Check.equal("loads", loads, 2);
    }

    private static void whatRemovesIt() {
        LitmusTester x = Check.defined(BUFFERING);
        x.explain(0, 69);
        Check.define(x, "loc x 0;thread;store");
        Check.equal("an error of define", x.step(0), 0);
        Check.thrown("insertFence", IndexOutOfBoundsException.class, () -> x.insertFence(2));
        Check.thrown("removeFence", NoSuchElementException.class, () -> x.removeFence(0));
        Check.equal("undo of nothing", x.undo(), -1);
        x.write();
        x.fewestFences(2);
        x.matchesWith(2, 3);
        x.stateCount(1);
        Check.equal("what changes nothing", Check.steps(x), List.of(0, 0, 10, 10));
        Check.equal("what changes nothing", x.readsFrom(3), 0);
        x.insertFence(0);
        absent("insertFence", x);
        x.explain(0, 69);
        Check.equal("explain again", Check.steps(x), List.of(0, 0, 0, 10, 10));
        x.undo();
        absent("undo", x);
        x.insertFence(0);
        x.explain(0, 69);
        x.removeFence(1);
        absent("removeFence", x);
        x.explain(0, 69);
        Check.define(x, BUFFERING);
        absent("define", x);
    }

    private static void step() {
        LitmusTester x = Check.defined(BUFFERING);
        x.explain(1, 5);
        for (int index : new int[] {-1, 6, 18, 100, Integer.MIN_VALUE, Integer.MAX_VALUE}) {
            Check.equal("step " + index, x.step(index), -1);
        }
        x.explain(0, 69);
        Check.equal("a shorter one", x.step(4), -1);
    }

    private static void readsFromBuffers() {
        LitmusTester x = Check.defined("loc x 2;loc y 0;thread;store x 1;load r0 x;store x 3;load r1 x;thread;load r0 y;load r1 x;");
        // 0:r0=1, 0:r1=3, 1:r0=0, 1:r1=2, x=3, y=0: thread 1 reads before anything is committed.
        Check.equal("explain", x.explain(2, ((((1 * 4 + 3) * 4) * 4 + 2) * 4 + 3) * 4), 8);
        Check.equal("steps", Check.steps(x), List.of(0, 0, 0, 0, 10, 10, 1, 1));
        Check.equal("from the buffer", x.readsFrom(1), 0);
        Check.equal("from its last entry", x.readsFrom(3), 2);
        Check.equal("an initial value", x.readsFrom(4), -1);
        Check.equal("an initial value", x.readsFrom(5), -1);
    }

    private static void readsFrom() {
        LitmusTester x = Check.defined("loc x 0;loc y 0;thread;swap r0 x 1;store y 1;fence;thread;load r0 x;swap r1 x 2;");
        // 0:r0=2, 1:r0=0, 1:r1=0, x=1, y=1: thread 1 goes first.
        Check.equal("explain", x.explain(1, (2 * 64 + 0) * 16 + 5), 6);
        Check.equal("steps", Check.steps(x), List.of(10, 10, 0, 0, 2, 0));
        Check.equal("a swap after a swap", x.readsFrom(0), 4);
        Check.equal("a load", x.readsFrom(3), -1);
        Check.equal("a swap", x.readsFrom(4), -1);
        Check.thrown("a store", NoSuchElementException.class, () -> x.readsFrom(1));
        Check.thrown("a fence", NoSuchElementException.class, () -> x.readsFrom(2));
        for (int wrong : new int[] {-1, 5, 10, Integer.MIN_VALUE, Integer.MAX_VALUE}) {
            Check.thrown("none", IndexOutOfBoundsException.class, () -> x.readsFrom(wrong));
            Check.thrown("none, and no explanation", IndexOutOfBoundsException.class, () -> new LitmusTester().readsFrom(wrong));
        }
    }

    private static void writtenBy() {
        LitmusTester x = Check.defined("loc x 0;loc y 0;loc z 0;thread;store x 1;swap r0 y 2;store x 1;thread;store x 3;");
        // 0:r0=0, x=1, y=2, z=0.
        Check.equal("explain", x.explain(0, 16 + 8), 4);
        Check.equal("steps", Check.steps(x), List.of(0, 0, 10, 0));
        int[][] due = {{0, 3, 2, -1}, {1, -1, -1, -1}, {-1, -1, -1, -1}};
        for (int location = 0; location < 3; location++) {
            for (int index = 0; index < 4; index++) {
                Check.equal("writtenBy " + location + " " + index, x.writtenBy(location, index), due[location][index]);
            }
            Check.equal("writtenBy -1", x.writtenBy(location, -1), -1);
            Check.equal("writtenBy the least int", x.writtenBy(location, Integer.MIN_VALUE), -1);
            Check.equal("writtenBy the greatest int", x.writtenBy(location, Integer.MAX_VALUE), -1);
        }
        for (int wrong : new int[] {-1, 3, Integer.MIN_VALUE, Integer.MAX_VALUE}) {
            Check.thrown("no location", IndexOutOfBoundsException.class, () -> x.writtenBy(wrong, 0));
        }
    }

    private static void commitsOutOfOrder() {
        LitmusTester x = Check.defined("loc x 0;loc y 0;thread;store x 1;store y 1;store y 2;thread;load r0 y;load r1 x;");
        // 1:r0=2, 1:r1=0, x=1, y=2: only model 2 commits y before x.
        int code = (2 * 4 + 0) * 16 + 4 + 2;
        Check.equal("model 1", x.explain(1, code), -1);
        Check.equal("model 2", x.explain(2, code), 8);
        Check.equal("steps", Check.steps(x), List.of(0, 0, 0, 2, 2, 10, 10, 1));
        Check.equal("writtenBy", x.writtenBy(1, 0), 1);
        Check.equal("writtenBy", x.writtenBy(1, 1), 2);
        Check.equal("writtenBy", x.writtenBy(0, 0), 0);
        Check.equal("readsFrom", x.readsFrom(3), 2);
        Check.equal("readsFrom", x.readsFrom(4), -1);
    }
}
