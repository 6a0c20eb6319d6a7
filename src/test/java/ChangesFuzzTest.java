import java.util.ArrayList;
import java.util.List;

/** Random changes, undone in part, compared with a list of all former texts. */
public final class ChangesFuzzTest {
    public static void main(String[] args) {
        Dice dice = new Dice(21);
        for (int round = 0; round < 400; round++) {
            oneObject(dice);
        }
        Check.end();
    }

    private static void oneObject(Dice dice) {
        Naive.Prog prog = dice.program(8);
        LitmusTester tester = Check.defined(prog.text());
        List<Naive.Prog> former = new ArrayList<>();
        boolean explained = false;
        for (int call = 0; call < 40; call++) {
            int kind = dice.below(7);
            if (kind < 3) {
                int gap = dice.below(7) - 1;
                Object due = dueOfInsertion(prog, gap);
                Naive.Prog after = due instanceof Integer ? prog.withFences(1 << gap) : prog;
                Check.equal("insertFence " + gap + " of " + prog.text(), answer(() -> tester.insertFence(gap)), due);
                explained &= after == prog;
                prog = keep(former, prog, after);
            } else if (kind < 5) {
                int instruction = dice.below(11) - 1;
                Object due = dueOfRemoval(prog, instruction);
                Naive.Prog after = due instanceof Integer ? prog.without(instruction) : prog;
                Check.equal("removeFence " + instruction + " of " + prog.text(), answer(() -> tester.removeFence(instruction)), due);
                explained &= after == prog;
                prog = keep(former, prog, after);
            } else if (kind == 5) {
                int left = former.size() - 1;
                Check.equal("undo", tester.undo(), left);
                prog = left < 0 ? prog : former.remove(left);
                explained &= left < 0;
            } else {
                tester.explain(1, tester.outcome(1, 0));
                explained = true;
            }
            // Programs without instructions have explanations without steps.
            Check.equal("explained", tester.step(0) != -1, explained && prog.size() > 0);
            Check.equal("written", Check.written(tester), prog.text());
        }
        Check.equal("executions of " + prog.text(), tester.executionCount(2), new Naive(prog, 2).executions());
    }

    private static Naive.Prog keep(List<Naive.Prog> former, Naive.Prog before, Naive.Prog after) {
        if (after != before) {
            former.add(before);
            if (former.size() > 8) {
                former.remove(0);
            }
        }
        return after;
    }

    private static Object answer(Check.Call call) {
        try {
            return call.answer();
        } catch (RuntimeException e) {
            return e.getClass().getSimpleName();
        }
    }

    private static Object dueOfInsertion(Naive.Prog prog, int gap) {
        if (gap < 0 || gap >= prog.gapPlaces().size()) {
            return "IndexOutOfBoundsException";
        }
        int place = prog.gapPlaces().get(gap);
        boolean full = prog.size() == 10 || prog.threads.get(prog.threadOf(place)).size() == 7;
        return full ? "IllegalStateException" : place;
    }

    private static Object dueOfRemoval(Naive.Prog prog, int instruction) {
        if (instruction < 0 || instruction >= prog.size()) {
            return "IndexOutOfBoundsException";
        }
        boolean fence = prog.all().get(instruction).kind() == Naive.FENCE;
        return fence ? prog.size() - 1 : "NoSuchElementException";
    }
}
