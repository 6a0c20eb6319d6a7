/** A condition as a tree, with its text and its meaning. */
interface Condition {
    /** 2 where "or" may stand, 1 where "and" may stand, 0 for a unit. */
    String text(int place);

    boolean holds(int[][] registers, int[] memory);

    record Or(Condition left, Condition right) implements Condition {
        public String text(int place) {
            String inner = left.text(2) + " or " + right.text(1);
            return place == 2 ? inner : "( " + inner + " )";
        }

        public boolean holds(int[][] registers, int[] memory) {
            return left.holds(registers, memory) || right.holds(registers, memory);
        }
    }

    record And(Condition left, Condition right) implements Condition {
        public String text(int place) {
            String inner = left.text(1) + " and " + right.text(0);
            return place >= 1 ? inner : "(" + inner + ")";
        }

        public boolean holds(int[][] registers, int[] memory) {
            return left.holds(registers, memory) && right.holds(registers, memory);
        }
    }

    record Not(Condition inner) implements Condition {
        public String text(int place) {
            return "not " + inner.text(0);
        }

        public boolean holds(int[][] registers, int[] memory) {
            return !inner.holds(registers, memory);
        }
    }

    /** Of a register if thread is not -1, otherwise of a location. */
    record Comparison(int thread, int index, String name, boolean less, int number) implements Condition {
        public String text(int place) {
            return (thread < 0 ? name : thread + ":r" + index) + (less ? "<" : " = ") + number;
        }

        public boolean holds(int[][] registers, int[] memory) {
            int value = thread < 0 ? memory[index] : registers[thread][index];
            return less ? value < number : value == number;
        }
    }

    static Condition some(Dice dice, Naive.Prog prog, int depth) {
        int kind = depth == 0 ? 9 : dice.below(10);
        if (kind < 2) {
            return new Or(some(dice, prog, depth - 1), some(dice, prog, depth - 1));
        }
        if (kind < 4) {
            return new And(some(dice, prog, depth - 1), some(dice, prog, depth - 1));
        }
        if (kind < 5) {
            return new Not(some(dice, prog, depth - 1));
        }
        for (int attempt = 0; attempt < 20; attempt++) {
            int thread = dice.below(prog.threads.size());
            int register = dice.below(2);
            boolean target = prog.threads.get(thread).stream().anyMatch(op -> op.target() == register);
            if (target && dice.below(4) != 0) {
                return new Comparison(thread, register, "", dice.below(2) == 0, dice.below(4));
            }
        }
        int location = dice.below(prog.names.size());
        return new Comparison(-1, location, prog.names.get(location), dice.below(2) == 0, dice.below(4));
    }

    static boolean holds(Condition condition, Naive.Prog prog, int code) {
        int[][] registers = new int[prog.threads.size()][2];
        int[] memory = new int[prog.names.size()];
        int rest = code;
        for (int l = memory.length - 1; l >= 0; l--, rest /= 4) {
            memory[l] = rest % 4;
        }
        for (int digit = 2 * registers.length - 1; digit >= 0; digit--, rest /= 4) {
            registers[digit / 2][digit % 2] = rest % 4;
        }
        return condition.holds(registers, memory);
    }
}
