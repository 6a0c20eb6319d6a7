import java.util.ArrayList;
import java.util.List;
import java.util.TreeSet;

/**
 * Compares every answer about some hundred programs with the slow and literal execution of them. The class
 * answers beyond its 512th call as before, which the document leaves free; this test makes use of it.
 */
public final class OracleTest {
    private static String text;

    public static void main(String[] args) {
        int rounds = args.length > 0 ? Integer.parseInt(args[0]) : 250;
        long seed = args.length > 1 ? Long.parseLong(args[1]) : 7;
        int accesses = args.length > 2 ? Integer.parseInt(args[2]) : 6;
        Dice dice = new Dice(seed);
        LitmusTester tester = new LitmusTester();
        for (int round = 0; round < rounds; round++) {
            // One object for several programs, so that what is left of one would spoil the next.
            if (round % 4 == 0) {
                tester = new LitmusTester();
            }
            compare(dice, tester, round % 8 == 0 ? 8 : accesses);
        }
        Check.end();
    }

    private static void compare(Dice dice, LitmusTester tester, int accesses) {
        Naive.Prog prog = dice.program(accesses);
        Condition condition = dice.below(8) == 0 ? null : Condition.some(dice, prog, 2);
        text = prog.text() + (condition == null ? "" : "exists " + condition.text(2) + ";");
        Check.equal("define of " + text, Check.define(tester, text), prog.size());
        comparePlain(prog, tester);
        Naive[] naive = new Naive[3];
        for (int model = 0; model < 3; model++) {
            naive[model] = new Naive(prog, model);
            compareOutcomes(prog, condition, naive[model], tester);
        }
        for (int model = 0; model < 3; model++) {
            for (int other = 0; other < 3; other++) {
                TreeSet<Integer> extra = new TreeSet<>(naive[model].outcomes.keySet());
                extra.removeAll(naive[other].outcomes.keySet());
                equal("extraOutcomes " + model + " " + other, tester.extraOutcomes(model, other), extra.size());
            }
            compareExplanation(dice, prog, naive[model], tester);
        }
        compareRaces(prog, naive[0], tester);
        compareFences(prog, condition, naive, tester);
    }

    private static void equal(String what, Object got, Object due) {
        Check.equal(what + " of " + text, got, due);
    }

    private static void comparePlain(Naive.Prog prog, LitmusTester tester) {
        equal("written", Check.written(tester), prog.text());
        equal("threads", tester.threadCount(), prog.threads.size());
        equal("locations", tester.locationCount(), prog.names.size());
        equal("size", tester.instructionCount(), prog.size());
        List<Naive.Op> ops = prog.all();
        for (int i = 0; i < ops.size(); i++) {
            int[] due = {prog.threadOf(i), ops.get(i).kind(), ops.get(i).location(), ops.get(i).target(),
                ops.get(i).constant(), ops.get(i).source()};
            for (int what = 0; what < 6; what++) {
                equal("instruction " + i + " " + what, tester.instruction(i, what), due[what]);
            }
        }
        equal("gaps", tester.gapCount(), prog.gapPlaces().size());
        for (int gap = 0; gap < prog.gapPlaces().size(); gap++) {
            equal("gap " + gap, tester.gapBefore(gap), prog.gapPlaces().get(gap));
        }
    }

    private static List<Integer> matches(Naive naive, Naive.Prog prog, Condition condition) {
        List<Integer> matches = new ArrayList<>();
        for (int code : naive.outcomes.keySet()) {
            if (condition == null || Condition.holds(condition, prog, code)) {
                matches.add(code);
            }
        }
        return matches;
    }

    private static void compareOutcomes(Naive.Prog prog, Condition condition, Naive naive, LitmusTester tester) {
        int model = naive.model;
        equal("outcomes " + model, Check.outcomes(tester, model), new ArrayList<>(naive.outcomes.keySet()));
        equal("states " + model, tester.stateCount(model), naive.states());
        equal("executions " + model, tester.executionCount(model), naive.executions());
        naive.outcomes.forEach((code, ways) -> {
            equal("executionsWith " + model + " " + code, tester.executionsWith(model, code), ways);
            equal("fulfils " + code, tester.fulfils(code), condition == null || Condition.holds(condition, prog, code));
            equal("hasOutcome", tester.hasOutcome(model, code), true);
            equal("hasOutcome", tester.hasOutcome(model, code + 1), naive.outcomes.containsKey(code + 1));
        });
        List<Integer> matches = matches(naive, prog, condition);
        equal("matchCount " + model, tester.matchCount(model), matches.size());
        equal("firstMatch " + model, tester.firstMatch(model), matches.isEmpty() ? -1 : matches.get(0));
        for (int i = 0; i < prog.size(); i++) {
            if (prog.all().get(i).target() >= 0) {
                equal("readValues " + model + " " + i, tester.readValues(model, i), naive.readValues.get(i));
            }
        }
        for (int l = 0; l < prog.names.size(); l++) {
            int values = 0;
            for (int code : naive.outcomes.keySet()) {
                values |= 1 << (code >> 2 * (prog.names.size() - 1 - l) & 3);
            }
            equal("finalValues " + model + " " + l, tester.finalValues(model, l), values);
        }
        for (int t = 0; t < prog.threads.size(); t++) {
            equal("greatestBuffer " + model + " " + t, tester.greatestBuffer(model, t), naive.greatest[t]);
        }
    }

    private static void compareExplanation(Dice dice, Naive.Prog prog, Naive naive, LitmusTester tester) {
        List<Integer> codes = new ArrayList<>(naive.outcomes.keySet());
        for (int i = 0; i < 6; i++) {
            int code = i == 0 ? codes.get(codes.size() - 1) : codes.get(dice.below(codes.size()));
            String what = "explain " + naive.model + " " + code + " ";
            naive.explain(code);
            equal(what, tester.explain(naive.model, code), naive.steps.size());
            equal(what + "steps", Check.steps(tester), naive.steps);
            for (int j = 0; j < prog.size(); j++) {
                if (prog.all().get(j).target() >= 0) {
                    equal(what + "readsFrom " + j, tester.readsFrom(j), naive.origins.get(j));
                }
            }
            for (int l = 0; l < prog.names.size(); l++) {
                List<Integer> writers = new ArrayList<>();
                for (int index = 0; tester.writtenBy(l, index) >= 0; index++) {
                    writers.add(tester.writtenBy(l, index));
                }
                equal(what + "writtenBy " + l, writers, naive.writers.get(l));
            }
        }
    }

    private static void compareRaces(Naive.Prog prog, Naive naive, LitmusTester tester) {
        int races = 0;
        for (int i = 0; i < prog.size(); i++) {
            for (int j = 0; j < prog.size(); j++) {
                boolean race = naive.isRace(i, j);
                races += race && i < j ? 1 : 0;
                equal("isRace " + i + " " + j, tester.isRace(i, j), race);
            }
        }
        equal("raceCount", tester.raceCount(), races);
    }

    private static void compareFences(Naive.Prog prog, Condition condition, Naive[] naive, LitmusTester tester) {
        int gaps = prog.gapPlaces().size();
        for (int model = 0; model < 3; model++) {
            int fewest = -1;
            int repairing = -1;
            for (int size = gaps; size >= 0; size--) {
                for (int set = (1 << gaps) - 1; set >= 0; set--) {
                    if (Integer.bitCount(set) == size) {
                        Naive fenced = new Naive(prog.withFences(set), model);
                        int matches = matches(fenced, prog, condition).size();
                        equal("matchesWith " + model + " " + set, tester.matchesWith(model, set), matches);
                        fewest = matches == 0 ? set : fewest;
                        repairing = fenced.outcomes.keySet().equals(naive[0].outcomes.keySet()) ? set : repairing;
                    }
                }
            }
            equal("fewestFences " + model, tester.fewestFences(model), fewest);
            equal("repairingFences " + model, tester.repairingFences(model), repairing);
            for (int i = 0; i < prog.size(); i++) {
                if (prog.all().get(i).kind() == Naive.FENCE) {
                    Naive less = new Naive(prog.without(i), model);
                    boolean needed = !less.outcomes.keySet().equals(naive[model].outcomes.keySet());
                    equal("isFenceNeeded " + model + " " + i, tester.isFenceNeeded(model, i), needed);
                }
            }
        }
    }
}
