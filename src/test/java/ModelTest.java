/** Long mixed runs, the same in each run of the test, on the program and on the model side by side. */
public final class ModelTest {
    private static final Check check = new Check("ModelTest");
    private static final int RUNS = 4000;
    private static final int CALLS = 512;

    private static final int[] LEAF_STATEMENTS = { 2, 39 };
    private static final int[] STATEMENTS = { 1, 1, 1, 1, 34, 35, 36, 37, 56, 36, 37 };
    private static final int[] OPERATORS = { 128, 130, 131, 132, 133, 134, 135, 136, 137, 138, 139, 140, 141, 142 };

    private long seed;
    private int calls;
    private final CycleController x = new CycleController();
    private final Model model = new Model();
    private final String name;

    private ModelTest(int run) {
        seed = run * 7919L + 17;
        name = "run " + run + ", call ";
    }

    public static void main(String[] args) {
        for (int run = 0; run < RUNS; run++) {
            new ModelTest(run).carryOut();
        }
        check.end();
    }

    /** A whole number below a bound; the sequence is fixed by the run's number. */
    private int below(int bound) {
        seed = seed * 6364136223846793005L + 1442695040888963407L;
        return (int) ((seed >>> 33) % bound);
    }

    private int one(int... choices) {
        return choices[below(choices.length)];
    }

    private void carryOut() {
        // A step makes one call, or a cycle and a digest.
        while (calls < CALLS - 2) {
            calls++;
            int p = below(40) == 0 ? one(-1, 2, 7) : below(2);
            if (p >= 0 && p < 2 && model.wanted(p) != ' ' && below(8) != 0) {
                feed(p);
            } else {
                other(p);
            }
        }
        check.due(name + "digest at the end", x.digest(), model.digest());
    }

    private void feed(int p) {
        int token = below(25) == 0 ? below(320) - 10 : likely(model.wanted(p));
        check.due(name + calls + ": feed(" + p + ", " + token + ")", x.feed(p, token), model.feed(p, token));
    }

    /** Leaves are frequent enough for programs to become whole. */
    private int likely(char kind) {
        if (kind == 'e') {
            if (below(3) == 0) {
                return one(OPERATORS);
            }
            return one(100 + below(5), 100 + below(16), 120 + below(8), 143 + below(15), 210 + below(81),
                250 + below(4), 250 + below(3));
        }
        if (below(12) == 0) {
            return one(LEAF_STATEMENTS);
        }
        return one(one(STATEMENTS), one(STATEMENTS), 10 + below(5), 10 + below(16), 30 + below(4), 40 + below(5),
            60 + below(9), 60 + below(9), 40 + below(16));
    }

    private int number() {
        return one(below(7) - 3, below(7) - 3, below(120) - 10, one(Check.EDGE_NUMBERS));
    }

    private void other(int p) {
        String what = name + calls + ": ";
        int i = below(20) == 0 ? number() : below(4);
        int value = number();
        switch (below(24)) {
            case 0 -> check.due(what + "back(" + p + ")", x.back(p), model.back(p));
            case 1 -> erase(what, p);
            case 2 -> check.due(what + "complete(" + p + ")", x.complete(p), model.complete(p));
            case 3, 4 -> check.due(what + "activate(" + p + ")", x.activate(p), model.activate(p));
            case 5 -> halt(what);
            case 6, 7 -> check.due(what + "input(" + i + ", " + value + ")", x.input(i, value), model.input(i, value));
            case 8 -> restart();
            case 9 -> poke(what, below(20) - 2, value);
            case 10 -> check.due(what + "variable(" + value + ")", x.variable(value), model.variable(value));
            case 11 -> check.due(what + "cell(" + value + ")", x.cell(value), model.cell(value));
            case 12 -> check.due(what + "output(" + i + ")", x.output(i), model.output(i));
            case 13 -> check.due(what + "block(" + i + ", " + value + ")", x.block(i, value), model.block(i, value));
            case 14 -> check.due(what + "digest()", x.digest(), model.digest());
            default -> cycle(what);
        }
    }

    private void erase(String what, int p) {
        if (below(4) == 0) {
            check.due(what + "erase(" + p + ")", x.erase(p), model.erase(p));
        }
    }

    private void halt(String what) {
        if (below(3) == 0) {
            check.due(what + "halt()", x.halt(), model.halt());
        }
    }

    private void restart() {
        if (below(3) == 0) {
            x.restart();
            model.restart();
        }
    }

    private void poke(String what, int v, int value) {
        check.due(what + "poke(" + v + ", " + value + ")", x.poke(v, value), model.poke(v, value));
    }

    private void cycle(String what) {
        int ticks = one(0, 1, 2, 3, below(104) - 2);
        check.due(what + "cycle(" + ticks + ")", x.cycle(ticks), model.cycle(ticks));
        calls++;
        check.due(what + "digest() after cycle(" + ticks + ")", x.digest(), model.digest());
    }
}
