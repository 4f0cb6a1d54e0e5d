/** Promise 17: in 34 and 60 to 68 all parts are worked out first, once each. */
public final class OrderTest {
    private static final Check check = new Check("OrderTest");
    private static final int N0 = Check.n(0);
    private static final int N1 = Check.n(1);

    public static void main(String[] args) {
        cell();
        timer();
        counter();
        edge();
        othersSeeWhatWasDone();
        check.end();
    }

    private static void cell() {
        CycleController x = check.running(34, 128, N0, 130, 128, N0, Check.n(3));
        int[][] rows = { { 3, 0 }, { 3, 0, 0, 6 }, { 3, 0, 0, 6 } };
        for (int[] row : rows) {
            check.cycle(x, 0);
            for (int c = 0; c < 8; c++) {
                check.due("cell " + c, x.cell(c), c < row.length ? row[c] : 0);
            }
        }
    }

    private static void timer() {
        for (int k = 0; k < 3; k++) {
            // f is 1 while ELAPSED is 0, and 11 as soon as it is 1.
            CycleController x = check.running(60 + k, N1, 130, N1, 132, Check.n(10), 146 + k);
            check.cycle(x, 5);
            check.block("0 of 1", x, k, 0, 0);
            check.cycle(x, 5);
            check.block("5 of 1", x, k, 1, 1);
            check.cycle(x, 0);
            check.block("5 of 11", x, k, 5, 0);
            // e is true while DONE is not.
            x = check.running(60 + k, 139, 143 + k, Check.n(0));
            check.cycle(x, 1);
            check.block("on", x, k, 0, 1);
            check.cycle(x, 1);
            check.block("off", x, k, 0, 0);
        }
    }

    private static void counter() {
        for (int k = 0; k < 3; k++) {
            CycleController x = check.running(63 + k, N1, N0, 130, 149 + k, N1);
            check.cycle(x, 0);
            check.block("1 of 1", x, k, 0, 0, 1, 1);
            check.cycle(x, 0);
            check.block("1 of 2", x, k, 0, 0, 1, 0);
            // f is true once VALUE is 1, and not before it has become so.
            x = check.running(63 + k, 139, 149 + k, 149 + k, N1);
            check.cycle(x, 0);
            check.block("counts", x, k, 0, 0, 1, 1);
            check.cycle(x, 0);
            check.block("is set back", x, k, 0, 0, 0, 0);
            check.cycle(x, 0);
            check.block("counts", x, k, 0, 0, 1, 1);
        }
    }

    private static void edge() {
        for (int k = 0; k < 3; k++) {
            CycleController x = check.running(66 + k, 139, 155 + k);
            for (int i = 0; i < 6; i++) {
                check.cycle(x, 0);
                check.block("to and fro", x, k, 0, 0, 0, 0, 1 - i % 2);
            }
        }
    }

    private static void othersSeeWhatWasDone() {
        CycleController x = check.running(1, 34, N0, N1, 1, 34, N1, 130, 128, N0, N1,
            1, 63, N1, N0, N1, 1, 64, 152, N0, 149, 1, 66, 149 + 1, 10, 155);
        check.cycle(x, 0);
        check.due("cell", x.cell(1), 2);
        check.block("first", x, 0, 0, 0, 1, 1, 1);
        check.block("second", x, 1, 0, 0, 1, 1, 0);
        check.variables("edge", x, 1);
        // A counter in a loop is looked at in each round, and sees each change.
        CycleController y = check.running(40, N1, Check.n(10), 63, 134, 100, Check.n(2), N0, Check.n(5));
        check.cycle(y, 0);
        check.block("five changes", y, 0, 0, 0, 5, 1);
    }
}
