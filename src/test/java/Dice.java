import java.util.ArrayList;
import java.util.List;

/** Programs and conditions out of a fixed row of numbers, the same ones in every run. */
final class Dice {
    private long seed;

    Dice(long seed) {
        this.seed = seed;
    }

    int below(int bound) {
        seed = seed * 6364136223846793005L + 1442695040888963407L;
        return (int) ((seed >>> 33) % bound);
    }

    Naive.Prog program(int maxAccesses) {
        Naive.Prog prog = new Naive.Prog();
        String[] names = {"x", "flag", "abcdefgh", "r", "y", "lock"};
        int first = below(names.length);
        int locations = 1 + below(3);
        for (int l = 0; l < locations; l++) {
            prog.names.add(names[(first + l) % names.length]);
            prog.initials.add(below(3) == 0 ? below(4) : 0);
        }
        int threads = 1 + below(4);
        int accesses = 0;
        int all = 0;
        int swaps = below(8);
        for (int t = 0; t < threads; t++) {
            List<Naive.Op> ops = new ArrayList<>();
            List<Integer> targets = new ArrayList<>();
            int own = 0;
            int length = below(6);
            for (int i = 0; i < length && all < 10 && ops.size() < 7; i++) {
                int kind = below(10);
                kind = kind < 4 ? Naive.STORE : kind < 7 ? Naive.LOAD : kind == 7 ? Naive.FENCE : swaps == 0 ? Naive.SWAP : below(2);
                if (kind != Naive.FENCE && (own == 4 || accesses == maxAccesses)) {
                    continue;
                }
                if ((kind == Naive.LOAD || kind == Naive.SWAP) && targets.size() == 2) {
                    kind = Naive.STORE;
                }
                ops.add(operation(kind, locations, targets));
                all++;
                own += kind == Naive.FENCE ? 0 : 1;
                accesses += kind == Naive.FENCE ? 0 : 1;
            }
            prog.threads.add(ops);
        }
        return prog;
    }

    private Naive.Op operation(int kind, int locations, List<Integer> targets) {
        if (kind == Naive.FENCE) {
            return new Naive.Op(kind, -1, -1, -1, -1);
        }
        int location = below(locations);
        int constant = -1;
        int source = -1;
        if (kind != Naive.LOAD) {
            if (!targets.isEmpty() && below(3) == 0) {
                source = targets.get(below(targets.size()));
            } else {
                constant = below(4);
            }
        }
        int target = -1;
        if (kind != Naive.STORE) {
            target = targets.isEmpty() ? below(2) : 1 - targets.get(0);
            targets.add(target);
        }
        return new Naive.Op(kind, location, target, constant, source);
    }
}
