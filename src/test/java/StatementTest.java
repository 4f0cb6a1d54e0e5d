/** What each statement without a loop does (Terms, and promise 9). */
public final class StatementTest {
    private static final Check check = new Check("StatementTest");

    public static void main(String[] args) {
        nothing();
        assignments();
        cells();
        sequences();
        twoWays();
        threeWays();
        overWithoutLoop();
        deepNests();
        check.end();
    }

    private static void nothing() {
        CycleController x = check.running(2);
        check.due("poke", x.poke(3, 4), 0);
        int before = x.digest();
        check.cycle(x, 9);
        check.due("digest", x.digest(), before);
    }

    private static void assignments() {
        for (int v = 0; v < 16; v++) {
            CycleController x = check.running(10 + v, Check.n(7));
            check.cycle(x, 0);
            for (int w = 0; w < 16; w++) {
                check.due("variable " + w, x.variable(w), w == v ? 7 : 0);
            }
            check.due("nothing else", x.digest(), 7 * (v + 1));
        }
        for (int o = 0; o < 4; o++) {
            CycleController x = check.running(30 + o, Check.n(-7));
            check.cycle(x, 0);
            for (int w = 0; w < 4; w++) {
                check.due("output " + w, x.output(w), w == o ? -7 : 0);
            }
            check.due("nothing else", x.digest(), -7 * (o + 25));
        }
    }

    private static void cells() {
        for (int at : Check.EDGE_NUMBERS) {
            CycleController x = check.running(34, 100, 101);
            check.due("poke", x.poke(0, at), 0);
            check.due("poke", x.poke(1, 5), 0);
            check.cycle(x, 0);
            for (int c = 0; c < 8; c++) {
                check.due("cell " + c + " of " + at, x.cell(c), c == (at & 7) ? 5 : 0);
            }
        }
    }

    private static void sequences() {
        CycleController x = check.running(1, 10, Check.n(3), 11, 130, 100, Check.n(1));
        check.cycle(x, 0);
        check.variables("s, then t", x, 3, 4);
        x = check.running(1, 1, 10, Check.n(3), 10, 132, 100, Check.n(5), 10, 130, 100, Check.n(1));
        check.cycle(x, 0);
        check.variables("three", x, 16);
    }

    private static void twoWays() {
        CycleController x = check.running(1, 35, 101, 10, Check.n(1), 10, Check.n(2), 12, Check.n(9));
        for (int e : Check.EDGE_NUMBERS) {
            check.due("poke", x.poke(1, e), 0);
            check.cycle(x, 0);
            check.variables("35 with " + e, x, e != 0 ? 1 : 2, e, 9);
        }
    }

    private static void threeWays() {
        CycleController x = check.running(
            1, 56, 101, 10, Check.n(10), 10, Check.n(11), 10, Check.n(12), 12, Check.n(9));
        for (int e : Check.EDGE_NUMBERS) {
            check.due("poke", x.poke(1, e), 0);
            check.cycle(x, 0);
            check.variables("56 with " + e, x, e == 0 ? 10 : e == 1 ? 11 : 12, e, 9);
        }
    }

    private static void overWithoutLoop() {
        CycleController x = check.running(1, 1, 10, Check.n(1), 39, 11, Check.n(1));
        check.cycle(x, 0);
        check.variables("over at once", x, 1, 0);
        x = check.running(1, 35, 102, 39, 2, 1, 10, Check.n(1), 1, 56, Check.n(5), 2, 2, 39, 11, Check.n(1));
        check.cycle(x, 0);
        check.variables("inside of others", x, 1, 0);
        check.cycle(x, 0);
        check.due("poke", x.poke(0, 0), 0);
        check.due("poke", x.poke(2, 1), 0);
        check.cycle(x, 0);
        check.variables("before all", x, 0, 0);
    }

    /** As deep as 60 tokens allow: to the left and to the right. */
    private static void deepNests() {
        int[] left = new int[59];
        int[] right = new int[59];
        for (int i = 0; i < 29; i++) {
            left[i] = 1;
            right[2 * i] = 1;
        }
        for (int i = 29; i < 59; i++) {
            left[i] = 2;
        }
        for (int i = 0; i < 29; i++) {
            right[2 * i + 1] = 2;
        }
        right[58] = 2;
        for (int[] tokens : new int[][] { left, right }) {
            int[] last = tokens.clone();
            last[58] = 10;
            CycleController x = check.running(Check.join(last, Check.list(Check.n(6))));
            check.cycle(x, 0);
            check.variables("the last one", x, 6);
        }
        int[] sums = new int[59];
        for (int i = 0; i < 29; i++) {
            sums[1 + i] = 131;
        }
        sums[0] = 10;
        for (int i = 30; i < 59; i++) {
            sums[i] = Check.n(1);
        }
        CycleController x = check.running(Check.join(sums, Check.list(Check.n(1))));
        check.cycle(x, 0);
        check.variables("1 less 29", x, -28);
    }
}
