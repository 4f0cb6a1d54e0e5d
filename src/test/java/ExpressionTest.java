/** What each expression comes to (Terms, and promise 9). */
public final class ExpressionTest {
    private static final Check check = new Check("ExpressionTest");
    private static final int MIN = Integer.MIN_VALUE;
    private static final int MAX = Integer.MAX_VALUE;

    public static void main(String[] args) {
        numbers();
        named();
        cells();
        arithmetic();
        comparisons();
        truth();
        picks();
        partsOfParts();
        check.end();
    }

    /** Works out an operator over variables 1, 2 and 3. */
    private static int worth(int operator, int... parts) {
        CycleController x = new CycleController();
        check.load(x, 0, 10, operator);
        for (int i = 0; i < parts.length; i++) {
            check.due("poke", x.poke(i + 1, parts[i]), 0);
            check.due("feed", x.feed(0, 101 + i), 3 + i);
        }
        check.due("activate", x.activate(0), 0);
        check.cycle(x, 0);
        return x.variable(0);
    }

    private static void is(int want, int operator, int... parts) {
        check.due(operator + " of " + java.util.Arrays.toString(parts), worth(operator, parts), want);
    }

    private static void numbers() {
        for (int n = -40; n <= 40; n++) {
            is(n, 250 + n);
        }
    }

    private static void named() {
        for (int v = 0; v < 16; v++) {
            CycleController x = check.running(30, 100 + v);
            check.due("poke", x.poke(v, 50 + v), 0);
            check.cycle(x, 0);
            check.due("variable " + v, x.output(0), 50 + v);
        }
        for (int o = 0; o < 4; o++) {
            CycleController x = check.running(1, 30 + o, 130, 124 + o, Check.n(3), 10, 124 + o);
            check.cycle(x, 0);
            check.cycle(x, 0);
            check.due("output " + o, x.variable(0), 6);
        }
    }

    private static void cells() {
        CycleController x = check.running(10, 128, 101);
        for (int c = 0; c < 8; c++) {
            check.replace(x, 34, Check.n(c), Check.n(20 + c));
            check.cycle(x, 0);
        }
        check.replace(x, 10, 128, 101);
        for (int at : Check.EDGE_NUMBERS) {
            check.due("poke", x.poke(1, at), 0);
            check.cycle(x, 0);
            check.due("cell " + at, x.variable(0), 20 + (at & 7));
        }
    }

    private static void arithmetic() {
        is(9, 130, 4, 5);
        is(MIN, 130, MAX, 1);
        is(MAX, 130, MIN, -1);
        is(-1, 131, 4, 5);
        is(MAX, 131, MIN, 1);
        is(MIN, 131, 0, MIN);
        is(-20, 132, 4, -5);
        is(0, 132, 1 << 16, 1 << 16);
        is(1, 132, MAX, MAX);
        is(MIN, 132, MIN, -1);
        is(3, 133, 7, 2);
        is(-3, 133, -7, 2);
        is(-3, 133, 7, -2);
        is(3, 133, -7, -2);
        is(0, 133, 7, 0);
        is(0, 133, MIN, 0);
        is(MIN, 133, MIN, -1);
        is(0, 133, 1, 2);
        is(1, 134, 7, 2);
        is(-1, 134, -7, 2);
        is(1, 134, 7, -2);
        is(-1, 134, -7, -2);
        is(0, 134, 7, 0);
        is(0, 134, MIN, -1);
        is(0, 134, MIN, 0);
    }

    private static void comparisons() {
        for (int e : Check.EDGE_NUMBERS) {
            for (int f : new int[] { MIN, -1, 0, 1, 16, MAX }) {
                is(e < f ? 1 : 0, 135, e, f);
                is(e == f ? 1 : 0, 136, e, f);
                is(Math.max(e, f), 140, e, f);
                is(Math.min(e, f), 141, e, f);
            }
        }
    }

    private static void truth() {
        int[] trues = { 1, 2, -1, MIN, MAX, 256 };
        for (int e : trues) {
            is(0, 139, e);
            is(0, 137, e, 0);
            is(0, 137, 0, e);
            is(1, 138, e, 0);
            is(1, 138, 0, e);
            for (int f : trues) {
                is(1, 137, e, f);
                is(1, 138, e, f);
            }
        }
        is(1, 139, 0);
        is(0, 137, 0, 0);
        is(0, 138, 0, 0);
    }

    private static void picks() {
        is(7, 142, 1, 7, 8);
        is(7, 142, -1, 7, 8);
        is(7, 142, MIN, 7, 8);
        is(8, 142, 0, 7, 8);
    }

    private static void partsOfParts() {
        int[] halves = { 131, 132, Check.n(7), Check.n(5), 133, Check.n(9), Check.n(2) };
        CycleController x = check.running(Check.join(Check.list(10), halves));
        check.cycle(x, 0);
        check.variables("7 * 5 - 9 / 2", x, 31);
        x = check.running(Check.join(Check.list(10, 142, 135, Check.n(1), Check.n(2)), halves,
            Check.list(140, Check.n(1), 139, Check.n(0))));
        check.cycle(x, 0);
        check.variables("the first", x, 31);
        x = check.running(Check.join(Check.list(10, 142, 135, Check.n(2), Check.n(1)), halves,
            Check.list(130, Check.n(1), 139, Check.n(0))));
        check.cycle(x, 0);
        check.variables("the second", x, 2);
        x = check.running(10, 131, 131, Check.n(10), Check.n(4), 131, Check.n(3), Check.n(2));
        check.cycle(x, 0);
        check.variables("(10 - 4) - (3 - 2)", x, 5);
    }
}
