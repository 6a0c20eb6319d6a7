import com.sun.management.ThreadMXBean;
import java.lang.management.ManagementFactory;

/** A run of the dearest calls stays far below the room of 7.3 million fields and elements. */
public final class RoomTest {
    // Programs with many states, found by a long search.
    private static final String[] DEAREST = {
        "loc x 0;loc y 3;loc z 0;thread;swap r0 x 3;store x 0;thread;swap r0 x 2;store x r0;thread;swap r1 x 3;swap r0 x 1;"
            + "fence;thread;swap r0 x 1;swap r1 x 2;fence;exists x<3;",
        "loc x 0;loc y 0;loc z 0;thread;store x 0;store y 1;store z 2;store x 3;thread;store x 1;store y 2;store z 3;"
            + "store y 1;exists x=2 and y=0 and z=1;",
        "loc x 2;loc y 0;loc z 0;thread;store z 0;swap r1 z 0;thread;store z 1;swap r0 z 1;thread;swap r0 z 3;"
            + "swap r1 z 3;thread;swap r1 z 2;swap r0 z 2;"};

    public static void main(String[] args) {
        for (int round = 0; round < 3; round++) {
            long before = allocated();
            LitmusTester tester = new LitmusTester();
            long made = allocated() - before;
            dearRun(tester);
            long used = allocated() - before;
            System.out.println("bytes for an object " + made + ", with its calls " + used);
            // 4 bytes an element at the least: 2 million elements are more than this.
            Check.yes("a run takes little room", used < 8_000_000);
            Check.yes("an object takes little room", round == 0 || made < 40_000);
        }
        Check.end();
    }

    private static long allocated() {
        ThreadMXBean bean = (ThreadMXBean) ManagementFactory.getThreadMXBean();
        return bean.getThreadAllocatedBytes(Thread.currentThread().getId());
    }

    private static void dearRun(LitmusTester tester) {
        int calls = 0;
        for (int round = 0; calls < 512; round++) {
            Check.put(tester, DEAREST[round % DEAREST.length]);
            Check.equal("define", tester.define() > 0, true);
            for (int model = 0; model < 3; model++) {
                tester.fewestFences(model);
                tester.repairingFences(model);
                tester.stateCount(model);
                int outcomes = tester.outcomeCount(model);
                for (int i = 0; i < 8; i++) {
                    tester.explain(model, tester.outcome(model, i * outcomes / 8));
                }
            }
            calls += 78;
        }
    }
}
