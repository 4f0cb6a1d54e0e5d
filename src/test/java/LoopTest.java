/** Loops, their end by 39, and the bounds of rounds (Terms, and promise 9). */
public final class LoopTest {
    private static final Check check = new Check("LoopTest");
    private static final int N0 = Check.n(0);
    private static final int N1 = Check.n(1);

    public static void main(String[] args) {
        whiles();
        untils();
        counts();
        countsAtTheEdges();
        twentyRounds();
        leaves();
        threeHundredRounds();
        theLastRoundsOfACycle();
        roundsAreCountedAnewInEachCycle();
        emptyRoundsCount();
        check.end();
    }

    /** Variable v becomes variable v + 1. */
    private static int[] up(int v) {
        return Check.list(10 + v, 130, 100 + v, N1);
    }

    private static CycleController after(int[]... lists) {
        CycleController x = check.running(Check.join(lists));
        check.cycle(x, 0);
        return x;
    }

    private static void whiles() {
        for (int n = 0; n <= 20; n++) {
            CycleController x = after(Check.list(1, 36, 135, 100, Check.n(n)), up(0), up(1));
            check.variables("while below " + n, x, n, 1);
        }
        CycleController x = after(Check.list(36, 131, 100, Check.n(3)), up(0));
        check.variables("while not 3", x, 3);
    }

    private static void untils() {
        for (int n = -1; n <= 20; n++) {
            CycleController x = after(Check.list(1, 37), up(0), Check.list(139, 135, 100, Check.n(n)), up(1));
            check.variables("until " + n, x, Math.max(n, 1), 1);
        }
        CycleController x = after(Check.list(37), up(0), Check.list(Check.n(-1)));
        check.variables("until any number that is true", x, 1);
    }

    private static void counts() {
        for (int v = 1; v < 16; v++) {
            CycleController x = after(Check.list(40 + v, Check.n(3), Check.n(7), 10, 130, 100, 100 + v));
            check.due("sum", x.variable(0), 25);
            check.due("variable " + v, x.variable(v), 8);
        }
        CycleController x = after(Check.list(1, 41, Check.n(3), Check.n(2)), up(0), up(2));
        check.variables("none", x, 0, 3, 1);
        x = after(Check.list(1, 11, Check.n(5), 41, N1, 101), up(0));
        check.variables("f is worked out before the variable is set", x, 5, 6);
        x = after(Check.list(1, 12, Check.n(5), 41, N1, 102, 1, 12, N0), up(0));
        check.variables("f is worked out once", x, 5, 6, 0);
        x = after(Check.list(1, 11, Check.n(2), 41, 101, Check.n(4)), up(0));
        check.variables("e asks for the variable itself", x, 3, 5);
        x = after(Check.list(41, N1, Check.n(10), 1), up(0), up(1));
        check.variables("s changes the variable", x, 5, 11);
    }

    private static void countsAtTheEdges() {
        CycleController x = check.running(Check.join(Check.list(41, 102, 103), up(0)));
        check.due("poke", x.poke(2, Integer.MAX_VALUE - 1), 0);
        check.due("poke", x.poke(3, Integer.MAX_VALUE), 0);
        check.cycle(x, 0);
        check.variables("it wraps", x, 20, Integer.MAX_VALUE - 1 + 20);
        check.due("poke", x.poke(0, 0), 0);
        check.due("poke", x.poke(3, Integer.MIN_VALUE), 0);
        check.cycle(x, 0);
        check.variables("greater at once", x, 0, Integer.MAX_VALUE - 1);
    }

    private static void twentyRounds() {
        CycleController x = after(Check.list(1, 36, N1), up(0), up(1));
        check.variables("36", x, 20, 1);
        x = after(Check.list(1, 37), up(0), Check.list(N0), up(1));
        check.variables("37", x, 20, 1);
        x = after(Check.list(1, 42, N0, Check.n(40)), up(0), up(1));
        check.variables("40", x, 20, 1, 20);
        x = after(Check.list(1, 42, N0, Check.n(19)), up(0), up(1));
        check.variables("40, twenty are enough", x, 20, 1, 20);
        x = after(Check.list(42, N1, Check.n(3), 36, N1), up(0));
        check.variables("twenty for each time", x, 60, 0, 4);
    }

    private static void leaves() {
        int[] leaveAt3 = { 35, 136, 100, Check.n(3), 39, 2 };
        CycleController x = after(Check.list(1, 36, N1, 1), up(0), Check.list(1), leaveAt3, up(1), up(2));
        check.variables("36", x, 3, 2, 1);
        x = after(Check.list(1, 37, 1), up(0), Check.list(1), leaveAt3, up(1), Check.list(N0), up(2));
        check.variables("37", x, 3, 2, 1);
        x = after(Check.list(1, 43, N1, Check.n(9), 1), up(0), Check.list(1), leaveAt3, up(1), up(2));
        check.variables("40 without one more", x, 3, 2, 1, 3);
        x = after(Check.list(1, 43, N1, Check.n(4), 1, 36, N1, 1), up(0), Check.list(39), up(1), up(2));
        check.variables("the innermost alone", x, 4, 4, 1, 5);
        x = after(Check.list(1, 43, N1, Check.n(4), 1, 36, N1, 39, 1), up(0), Check.list(39), up(2));
        check.variables("the outer one behind the inner one", x, 1, 0, 1, 1);
        x = after(Check.list(1, 36, 135, 100, N1), up(0), Check.list(1, 39), up(1));
        check.variables("behind a loop there is none", x, 1, 0);
    }

    /** Loops in one another: each of the inner rounds counts, and so do the outer ones. */
    private static void threeHundredRounds() {
        CycleController x = after(Check.list(1, 36, N1, 1), up(0), Check.list(36, N1), up(1), up(2));
        // 21 rounds for each of the outer ones: 14 make 294, and the 15th one has 5 inner ones.
        check.variables("36 in 36", x, 15, 285, 0);
        x = after(Check.list(1, 37, 1), up(0), Check.list(37), up(1), Check.list(N0, N0), up(2));
        check.variables("37 in 37", x, 15, 285, 0);
        x = after(Check.list(1, 43, N1, Check.n(30), 1), up(0), Check.list(44, N1, Check.n(30)), up(1), up(2));
        check.variables("40 in 40", x, 15, 285, 0, 15);
        check.due("the inner variable", x.variable(4), 6);
    }

    private static void theLastRoundsOfACycle() {
        // Twelve times 1 + 20 rounds, one that finds an end, and two times 20.
        int[] rounds293 = { 1, 45, N1, Check.n(12), 36, N1, 2, 1, 36, N1, 2, 1, 36, N1, 2 };
        for (int more = 1; more <= 10; more++) {
            int[] loop = Check.join(Check.list(36, 135, 100, Check.n(more)), up(0));
            CycleController x = after(rounds293, Check.list(1), loop, up(1));
            // The loop begins more + 1, the last of which finds its end.
            check.variables("36, " + more, x, Math.min(more, 7), more + 1 <= 7 ? 1 : 0);
            loop = Check.join(Check.list(37), up(0), Check.list(136, 100, Check.n(more)));
            x = after(rounds293, Check.list(1), loop, up(1));
            check.variables("37, " + more, x, Math.min(more, 7), more <= 7 ? 1 : 0);
            loop = Check.join(Check.list(43, N1, Check.n(more)), up(0));
            x = after(rounds293, Check.list(1), loop, up(1));
            check.variables("40, " + more, x, Math.min(more, 7), more + 1 <= 7 ? 1 : 0, 0,
                Math.min(more, 7) + 1);
        }
        CycleController x = after(roundsAndTwentyMore(6));
        check.variables("exactly 300", x, 20, 1, 6);
        x = after(roundsAndTwentyMore(7));
        check.variables("one too many", x, 19, 0, 7);
    }

    /** 13 * 21 + 1 rounds, then so many, then twenty; then one is added to variable 1. */
    private static int[] roundsAndTwentyMore(int many) {
        return Check.join(Check.list(1, 45, N1, Check.n(13), 36, N1, 2, 1, 37), up(2),
            Check.list(136, 102, Check.n(many), 1, 36, N1), up(0), up(1));
    }

    private static void roundsAreCountedAnewInEachCycle() {
        CycleController x = after(Check.list(43, N1, Check.n(12), 36, N1), up(0));
        check.variables("first", x, 240);
        check.cycle(x, 0);
        check.variables("second", x, 480);
        check.replace(x, Check.join(Check.list(36, N1, 36, N1), up(0)));
        check.due("poke", x.poke(0, 0), 0);
        check.cycle(x, 0);
        check.variables("cut", x, 285);
        check.cycle(x, 0);
        check.variables("cut again", x, 570);
    }

    /** A round that finds the loop's end at once has begun all the same. */
    private static void emptyRoundsCount() {
        // Each outer round has itself and 14 loops that end at once: 15, so that 20 make 300.
        int[] body = new int[0];
        for (int i = 0; i < 13; i++) {
            body = Check.join(body, Check.list(1, 36, N0, 2));
        }
        CycleController x = after(Check.list(1, 37), body, Check.list(36, N0, 2, N0, 10, N1));
        check.variables("300", x, 1);
    }
}
