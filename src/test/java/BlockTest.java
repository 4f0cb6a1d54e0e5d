/** Timers, counters and edges, their expressions, and promise 15: block. */
public final class BlockTest {
    private static final Check check = new Check("BlockTest");
    private static final int N0 = Check.n(0);
    private static final int N1 = Check.n(1);

    public static void main(String[] args) {
        for (int k = 0; k < 3; k++) {
            timer(k);
            timerLimits(k);
            counter(k);
            counterGoals(k);
            edge(k);
            expressions(k);
        }
        blocksAreApart();
        wrongQuestions();
        check.end();
    }

    private static void timer(int k) {
        CycleController x = check.running(60 + k, 120, Check.n(10));
        check.cycle(x, 7);
        check.block("off", x, k, 0, 0);
        check.due("input", x.input(0, -4), 0);
        check.cycle(x, 3);
        check.block("begins", x, k, 0, 0);
        check.cycle(x, 9);
        check.block("nine", x, k, 9, 0);
        check.cycle(x, 0);
        check.block("no ticks", x, k, 9, 0);
        check.cycle(x, 1);
        check.block("ten", x, k, 10, 1);
        check.cycle(x, 30);
        check.block("forty", x, k, 10, 1);
        check.due("input", x.input(0, 0), 0);
        check.cycle(x, 1);
        check.block("off", x, k, 0, 0);
        check.due("input", x.input(0, 1), 0);
        check.cycle(x, 5);
        check.block("begins anew", x, k, 0, 0);
        check.cycle(x, 6);
        check.block("six", x, k, 6, 0);
    }

    private static void timerLimits(int k) {
        CycleController x = check.running(60 + k, N1, 100);
        check.cycle(x, 20);
        check.block("limit 0 at once", x, k, 0, 1);
        check.due("poke", x.poke(0, 1), 0);
        check.cycle(x, 0);
        check.block("limit 1, nothing has gone by", x, k, 0, 0);
        check.due("poke", x.poke(0, -5), 0);
        check.cycle(x, 8);
        check.block("limit below 0", x, k, 0, 1);
        check.due("poke", x.poke(0, Integer.MIN_VALUE), 0);
        check.cycle(x, 0);
        check.block("the least limit", x, k, 0, 1);
        check.due("poke", x.poke(0, Integer.MAX_VALUE), 0);
        check.cycle(x, 0);
        check.block("the greatest limit", x, k, 8, 0);
        check.due("poke", x.poke(0, 3), 0);
        check.cycle(x, 0);
        check.block("a limit that has gone by", x, k, 3, 1);
        check.due("poke", x.poke(0, 9), 0);
        check.cycle(x, 0);
        check.block("a later limit again", x, k, 8, 0);
    }

    private static void counter(int k) {
        CycleController x = check.running(63 + k, 120, 121, Check.n(2));
        int[][] steps = {
            // e, f, VALUE, DONE
            { 0, 0, 0, 0 }, { 5, 0, 1, 0 }, { -1, 0, 1, 0 }, { 0, 0, 1, 0 }, { 1, 0, 2, 1 }, { 0, 0, 2, 1 },
            { 1, 0, 3, 1 }, { 1, 9, 0, 0 }, { 1, 0, 0, 0 }, { 0, 0, 0, 0 }, { 1, 0, 1, 0 }, { 0, 0, 1, 0 },
            { 1, -1, 0, 0 }, { 1, 0, 0, 0 }, { 0, 1, 0, 0 }, { 1, 0, 1, 0 } };
        for (int[] step : steps) {
            check.due("input", x.input(0, step[0]), 0);
            check.due("input", x.input(1, step[1]), 0);
            check.cycle(x, 1);
            check.block("counter", x, k, 0, 0, step[2], step[3], 0);
        }
    }

    private static void counterGoals(int k) {
        CycleController x = check.running(63 + k, N1, N0, 100);
        int[][] steps = { { 2, 0 }, { 1, 1 }, { 0, 1 }, { -1, 1 }, { Integer.MIN_VALUE, 1 }, { Integer.MAX_VALUE, 0 } };
        for (int[] step : steps) {
            check.due("poke", x.poke(0, step[0]), 0);
            check.cycle(x, 0);
            check.block("goal " + step[0], x, k, 0, 0, 1, step[1], 0);
        }
        x = check.running(63 + k, N1, N1, N0);
        check.cycle(x, 0);
        check.block("0 is 0 or more", x, k, 0, 0, 0, 1, 0);
    }

    private static void edge(int k) {
        CycleController x = check.running(66 + k, 120);
        int[][] steps = { { 0, 0 }, { 3, 1 }, { 1, 0 }, { -1, 0 }, { 0, 0 }, { Integer.MIN_VALUE, 1 }, { 0, 0 }, { 1, 1 } };
        for (int[] step : steps) {
            check.due("input", x.input(0, step[0]), 0);
            check.cycle(x, 0);
            check.block("edge", x, k, 0, 0, 0, 0, step[1]);
        }
    }

    private static void expressions(int k) {
        int[] run = { 1, 60 + k, N1, Check.n(4), 1, 63 + k, 120, N0, Check.n(1), 1, 66 + k, 121 };
        int[] ask = { 1, 10, 143 + k, 1, 11, 146 + k, 1, 12, 149 + k, 1, 13, 152 + k, 14, 155 + k };
        CycleController x = check.running(Check.join(run, ask));
        check.cycle(x, 2);
        check.variables("at first", x, 0, 0, 0, 0, 0);
        check.cycle(x, 3);
        check.variables("ELAPSED", x, 0, 3, 0, 0, 0);
        check.cycle(x, 6);
        check.variables("DONE of the timer", x, 1, 4, 0, 0, 0);
        check.due("input", x.input(0, 1), 0);
        check.cycle(x, 0);
        check.variables("the counter", x, 1, 4, 1, 1, 0);
        check.due("input", x.input(0, 0), 0);
        check.cycle(x, 0);
        check.due("input", x.input(0, 1), 0);
        check.due("input", x.input(1, 1), 0);
        check.cycle(x, 0);
        check.variables("the edge", x, 1, 4, 2, 1, 1);
    }

    private static void blocksAreApart() {
        CycleController x = check.running(1, 61, N1, Check.n(9), 1, 65, N1, N0, Check.n(1), 66, N1);
        check.cycle(x, 2);
        check.cycle(x, 5);
        check.block("apart", x, 0, 0, 0, 0, 0, 0);
        check.block("apart", x, 1, 5, 0, 0, 0, 0);
        check.block("apart", x, 2, 0, 0, 1, 1, 0);
        CycleController y = check.running(1, 66, N1, 1, 68, 139, 155, 67, 155);
        check.cycle(y, 0);
        check.block("edges", y, 0, 0, 0, 0, 0, 1);
        check.block("edges", y, 1, 0, 0, 0, 0, 1);
        check.block("edges", y, 2, 0, 0, 0, 0, 0);
    }

    private static void wrongQuestions() {
        CycleController x = new CycleController();
        for (int k = 0; k < 3; k++) {
            int[] timer = { 1, 60 + k, 120, Check.n(5) };
            int[] others = { 1, 63 + k, N1, N0, N1, 66 + k, 120 };
            check.replace(x, Check.join(timer, others));
            check.due("input", x.input(0, 1), 0);
            check.cycle(x, 0);
            check.cycle(x, 9);
            check.due("input", x.input(0, 0), 0);
        }
        for (int k = 0; k < 3; k++) {
            check.block("right ones", x, k, 5, 1, 1, 1, 0);
        }
        for (int wrong : Check.EDGE_NUMBERS) {
            for (int right = 0; right < 5 && (wrong < 0 || wrong > 4); right += 2) {
                check.due("block(" + wrong + ", " + right + ")", x.block(wrong, right), 0);
                check.due("block(" + right + ", " + wrong + ")", x.block(right, wrong), 0);
            }
        }
        for (int what = 0; what < 5; what++) {
            check.due("block(3, " + what + ")", x.block(3, what), 0);
            check.due("block(4, " + what + ")", x.block(4, what), 0);
        }
    }
}
