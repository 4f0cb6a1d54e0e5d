/** "Terms": the ends of loops, the 20 rounds of each and the 300 of a cycle, a test for each sentence. */
public final class RoundBoundsTest {
    private static final Check check = new Check("RoundBoundsTest");
    private static final int N0 = Check.n(0);
    private static final int N1 = Check.n(1);
    private static final int MIN = Integer.MIN_VALUE;
    private static final int MAX = Integer.MAX_VALUE;

    public static void main(String[] args) {
        check.sentence("36: if e is not true, the loop is over; else s", RoundBoundsTest::whileEnds);
        check.sentence("36: After 20 rounds in which s was carried out, it is over.", RoundBoundsTest::whileTwenty);
        check.sentence("37: s; then, if e is true, the loop is over", RoundBoundsTest::untilEnds);
        check.sentence("37: After 20 rounds it is over.", RoundBoundsTest::untilTwenty);
        check.sentence("40: e and f are worked out once, in this order; variable v becomes e.",
            RoundBoundsTest::countBegins);
        check.sentence("40: if variable v is greater than f, the loop is over", RoundBoundsTest::countEnds);
        check.sentence("40: and then variable v becomes variable v + 1", RoundBoundsTest::countGoesUp);
        check.sentence("40: After 20 rounds in which s was carried out, it is over.", RoundBoundsTest::countTwenty);
        check.sentence("39: the innermost loop in whose s it stands is over at once", RoundBoundsTest::leaveInnermost);
        check.sentence("39: if there is none, the program is", RoundBoundsTest::leaveProgram);
        check.sentence("In a cycle at most 300 rounds begin", RoundBoundsTest::threeHundred);
        check.sentence("in all loops together", RoundBoundsTest::allLoopsTogether);
        check.sentence("a round begins before its e is worked out", RoundBoundsTest::whileBegins);
        check.sentence("or for 37 before its s", RoundBoundsTest::untilBegins);
        check.sentence("or for 40 before variable v is looked at", RoundBoundsTest::countRoundBegins);
        check.sentence("where another one would begin", RoundBoundsTest::noOtherOne);
        check.sentence("the program is over", RoundBoundsTest::programIsOver);
        check.sentence("A CYCLE: .. the active program is carried out.", RoundBoundsTest::eachCycleAnew);
        check.sentence("a list of at most 60 TOKENS: loops in one another", RoundBoundsTest::deepest);
        check.end();
    }

    /** Variable v becomes variable v + 1. */
    private static int[] up(int v) {
        return Check.list(10 + v, 130, 100 + v, N1);
    }

    private static CycleController after(int[]... lists) {
        CycleController x = check.running(Check.join(lists));
        check.cycle(x, 0);
        return x;
    }

    /** What comes before a statement so that so many rounds, 22 or more, have begun; it uses variable 5. */
    private static int[] begun(int rounds) {
        // A round of the outer loop is one, and has twenty in it; the outer loop's end is one more.
        int outer = (rounds - 1) / 21;
        int rest = rounds - 21 * outer - 1;
        int[] many = { 1, 45, N1, Check.n(outer), 36, N1, 2 };
        int[] few = { 1, 45, N1, Check.n(rest - 1), 2 };
        return rest == 0 ? many : Check.join(many, few);
    }

    private static void whileEnds() {
        CycleController x = after(Check.list(1, 36, N0), up(0), up(1));
        check.variables("not true at once", x, 0, 1);
        x = after(Check.list(1, 36, 139, 100), up(0), up(1));
        check.variables("not true after one", x, 1, 1);
        x = after(Check.list(1, 36, 131, 100, Check.n(2)), up(0), up(1));
        check.variables("-2 and -1 are true", x, 2, 1);
    }

    private static void whileTwenty() {
        for (int n = 18; n <= 22; n++) {
            CycleController x = after(Check.list(1, 36, 135, 100, Check.n(n)), up(0), up(1));
            check.variables("while below " + n, x, Math.min(n, 20), 1);
        }
        CycleController x = after(Check.list(1, 36, N1), up(0), Check.list(36, N1), up(1));
        check.variables("one after another: each has twenty", x, 20, 20);
        x = after(Check.list(42, N1, N1, 1, 36, N1), up(0), Check.list(36, N1), up(0));
        check.variables("inside of another", x, 40);
        x = after(Check.list(42, N1, Check.n(2), 36, N1), up(0));
        check.variables("the same one again has twenty again", x, 40);
    }

    private static void untilEnds() {
        CycleController x = after(Check.list(1, 37), up(0), Check.list(N1), up(1));
        check.variables("s first", x, 1, 1);
        x = after(Check.list(1, 37), up(0), Check.list(Check.n(-40)), up(1));
        check.variables("-40 is true", x, 1, 1);
        x = after(Check.list(1, 37), up(0), Check.list(136, 100, Check.n(2)), up(1));
        check.variables("e is worked out after s", x, 2, 1);
    }

    private static void untilTwenty() {
        for (int n = 18; n <= 22; n++) {
            CycleController x = after(Check.list(1, 37), up(0), Check.list(136, 100, Check.n(n)), up(1));
            check.variables("until " + n, x, Math.min(n, 20), 1);
        }
        CycleController x = after(Check.list(1, 37), up(0), Check.list(N0, 37), up(1), Check.list(N0));
        check.variables("one after another: each has twenty", x, 20, 20);
        x = after(Check.list(42, N1, Check.n(2), 37), up(0), Check.list(N0));
        check.variables("the same one again has twenty again", x, 40);
    }

    private static void countBegins() {
        CycleController x = after(Check.list(1, 40, Check.n(9), Check.n(8)), up(1), up(2));
        check.variables("no round, but the variable has become e", x, 9, 0, 1);
        x = check.running(Check.join(Check.list(40, Check.n(2), 100), up(1)));
        x.poke(0, 4);
        check.cycle(x, 0);
        check.variables("f asks for the variable as it was before", x, 5, 3);
        x = check.running(Check.join(Check.list(40, 130, 100, N1, 100), up(1)));
        x.poke(0, 4);
        check.cycle(x, 0);
        check.variables("e asks for it too", x, 5, 0);
        x = check.running(Check.join(Check.list(40, N1, 102, 1, 12, Check.n(40)), up(1)));
        x.poke(2, 3);
        check.cycle(x, 0);
        check.variables("f is not worked out again", x, 4, 3, 40);
    }

    private static void countEnds() {
        int[][] rows = { // e, f, rounds
            { 3, 2, 0 }, { 3, 3, 1 }, { 3, 4, 2 }, { -1, 0, 2 }, { MAX, MIN, 0 }, { 0, MIN, 0 }, { MIN, MIN, 1 },
            { MAX, MAX - 1, 0 }, { MIN, MIN + 1, 2 }, { MAX - 1, MAX - 1, 1 } };
        for (int[] row : rows) {
            CycleController x = check.running(Check.join(Check.list(1, 40, 102, 103), up(1), up(4)));
            x.poke(2, row[0]);
            x.poke(3, row[1]);
            check.cycle(x, 0);
            check.variables("from " + row[0] + " to " + row[1], x, row[0] + row[2], row[2], row[0], row[1], 1);
        }
        // Nothing is greater than the greatest, so that the variable wraps and the loop goes on.
        CycleController x = check.running(Check.join(Check.list(40, 102, 102), up(1)));
        x.poke(2, MAX);
        check.cycle(x, 0);
        check.variables("from the greatest to itself", x, MIN + 19, 20);
    }

    private static void countGoesUp() {
        CycleController x = after(Check.list(40, N1, Check.n(9), 1, 10, 130, 100, Check.n(2)), up(1));
        check.variables("s changes it, and then it goes up", x, 10, 3);
        x = check.running(Check.join(Check.list(40, N1, Check.n(9), 1, 10, 102), up(1)));
        x.poke(2, MAX);
        check.cycle(x, 0);
        check.variables("it wraps, and is not greater", x, MIN, 20);
    }

    private static void countTwenty() {
        for (int n = 18; n <= 22; n++) {
            CycleController x = after(Check.list(1, 40, N1, Check.n(n)), up(1), up(2));
            check.variables("1 to " + n, x, Math.min(n, 20) + 1, Math.min(n, 20), 1);
        }
        CycleController x = after(Check.list(43, N1, Check.n(2), 40, N1, Check.n(40)), up(1));
        check.variables("the same one again has twenty again", x, 21, 40);
    }

    private static void leaveInnermost() {
        int[] leaveAt20 = { 35, 136, 101, Check.n(20), 39, 2 };
        CycleController x = after(Check.list(1, 40, N1, Check.n(40), 1), up(1), leaveAt20, up(2));
        check.variables("in the twentieth round: the variable does not go up", x, 20, 20, 1);
        x = after(Check.list(1, 36, N1, 1, 39), up(0), up(1));
        check.variables("36, in the first round", x, 0, 1);
        x = after(Check.list(1, 37, 1, 39), up(0), Check.list(N0), up(1));
        check.variables("37, in the first round, and e is not asked", x, 0, 1);
        x = after(Check.list(1, 40, N1, Check.n(9), 1, 39), up(1), up(2));
        check.variables("40, in the first round", x, 1, 0, 1);
        x = after(Check.list(40, N1, Check.n(3), 1, 37, 1, up(1)[0], 130, 101, N1, 39, N0), up(2));
        check.variables("the outer one goes on", x, 4, 3, 3);
        x = after(Check.list(1, 36, N1, 1, 36, N0, 2, 1, 39), up(0), up(1));
        check.variables("behind an inner one it is the outer one's", x, 0, 1);
    }

    private static void leaveProgram() {
        CycleController x = after(Check.list(39));
        check.due("39 alone", x.digest(), 0);
        x = after(Check.list(1, 1), up(0), Check.list(1, 39), up(1), up(2));
        check.variables("in a sequence", x, 1, 0, 0);
        x = after(Check.list(1, 35, N1, 56, N1, 2, 39, 2, 2), up(0));
        check.variables("in others that are no loops", x, 0);
        x = after(Check.list(1, 37, 2, N1, 1, 39), up(0));
        check.variables("behind a loop", x, 0);
        check.cycle(x, 0);
        check.due("still running", x.halt(), 1);
    }

    private static void threeHundred() {
        // What comes behind so many rounds is a loop that begins four, and then variable 1 goes up.
        int[][] loops = {
            Check.join(Check.list(36, 135, 100, Check.n(3)), up(0)),
            Check.join(Check.list(37), up(0), Check.list(136, 100, Check.n(4))),
            Check.join(Check.list(46, N1, Check.n(3)), up(0)) };
        int[] bodies = { 3, 4, 3 };
        for (int before = 290; before <= 300; before++) {
            for (int i = 0; i < loops.length; i++) {
                CycleController x = after(begun(before), Check.list(1), loops[i], up(1));
                int left = 300 - before;
                check.variables(loops[i][0] + " behind " + before, x, Math.min(left, bodies[i]), left >= 4 ? 1 : 0);
            }
        }
    }

    private static void allLoopsTogether() {
        CycleController x = after(Check.list(36, N1, 1), up(0), Check.list(36, N1, 1), up(1), Check.list(36, N1), up(2));
        // An outer round has 1 + 20 * 21 in it, which is more than there are: 1, then 14 times 21, then 1 and 4.
        check.variables("three in one another", x, 1, 15, 284);
        x = after(Check.list(37, 1), up(0), Check.list(1, 36, N1), up(1),
            Check.list(1, 37), up(2), Check.list(N0, 43, N1, Check.n(40)), up(4), Check.list(N0));
        // 61 rounds for each of the outer ones: four make 244, then 1, 20, 20 and 15.
        check.variables("one of each kind in one another", x, 5, 100, 100, 16);
        check.due("variable 4", x.variable(4), 95);
    }

    private static void whileBegins() {
        CycleController x = after(begun(299), Check.list(1, 36, N0, 2), up(0));
        check.variables("the last round finds the end", x, 1);
        x = after(begun(300), Check.list(1, 36, N0, 2), up(0));
        check.variables("the round that would find the end can't begin", x, 0);
        x = after(begun(298), Check.list(1, 36, N0, 2, 1, 36, N0, 2), up(0));
        check.variables("two that find the end", x, 1);
        x = after(begun(299), Check.list(1, 36, N0, 2, 1, 36, N0, 2), up(0));
        check.variables("the second of them can't begin", x, 0);
    }

    private static void untilBegins() {
        CycleController x = after(begun(299), Check.list(1, 37), up(0), Check.list(N1), up(1));
        check.variables("the last round", x, 1, 1);
        x = after(begun(300), Check.list(1, 37), up(0), Check.list(N1), up(1));
        check.variables("its s is not carried out", x, 0, 0);
        x = after(begun(299), Check.list(1, 37), up(0), Check.list(N0), up(1));
        check.variables("the last round, and another would begin", x, 1, 0);
    }

    private static void countRoundBegins() {
        CycleController x = after(begun(299), Check.list(1, 40, Check.n(9), Check.n(8), 2), up(1));
        check.variables("the last round finds the end", x, 9, 1);
        x = after(begun(300), Check.list(1, 40, Check.n(9), Check.n(8), 2), up(1));
        check.variables("it can't begin, but the variable has become e", x, 9, 0);
        x = after(begun(299), Check.list(1, 40, N1, N1), up(1), up(2));
        check.variables("the variable goes up before another would begin", x, 2, 1, 0);
    }

    private static void programIsOver() {
        CycleController x = after(Check.list(1, 36, N1, 1, 37, 1), up(0),
            Check.list(36, N1), up(1), Check.list(N0), up(2), up(3));
        // 1, then 14 times 21, then 1 and 4: neither of the outer loops goes on, nor what is behind them.
        check.variables("out of all loops", x, 15, 284, 0, 0);
        x = after(begun(300), Check.list(1), up(0), Check.list(1, 36, N1, 2), up(1));
        check.variables("what needs no round is still carried out", x, 1, 0);
        check.due("the controller runs", x.halt(), 1);
    }

    /** A loop that has had its twenty, or was left, needs no other one. */
    private static void noOtherOne() {
        CycleController x = after(begun(280), Check.list(1, 36, N1), up(0), up(1));
        check.variables("36, twenty to the last round", x, 20, 1);
        x = after(begun(281), Check.list(1, 36, N1), up(0), up(1));
        check.variables("36, one too many", x, 19, 0);
        x = after(begun(280), Check.list(1, 37), up(0), Check.list(N0), up(1));
        check.variables("37, twenty to the last round", x, 20, 1);
        x = after(begun(281), Check.list(1, 37), up(0), Check.list(N0), up(1));
        check.variables("37, one too many", x, 19, 0);
        x = after(begun(280), Check.list(1, 40, N1, Check.n(20)), up(1), up(2));
        check.variables("40, twenty to the last round", x, 21, 20, 1);
        x = after(begun(281), Check.list(1, 40, N1, Check.n(20)), up(1), up(2));
        check.variables("40, one too many", x, 20, 19, 0);
        x = after(begun(299), Check.list(1, 36, N1, 1), up(0), Check.list(39), up(1));
        check.variables("39 in the last round", x, 1, 1);
    }

    private static void eachCycleAnew() {
        CycleController x = after(begun(300), up(0));
        for (int cycles = 2; cycles <= 5; cycles++) {
            check.cycle(x, 0);
            check.variables("300 in each", x, cycles);
        }
        x = after(Check.list(1), up(1), begun(300), Check.list(1, 36, N1, 2), up(0));
        for (int cycles = 2; cycles <= 5; cycles++) {
            check.cycle(x, 0);
            check.variables("from the beginning, after one that was cut", x, 0, cycles);
        }
        x = after(Check.list(1), up(1), Check.list(1, 39), up(0));
        check.cycle(x, 0);
        check.variables("from the beginning, after 39", x, 0, 2);
    }

    /** As many loops in one another as sixty tokens allow. */
    private static void deepest() {
        int[] whiles = new int[0];
        int[] untils = new int[0];
        int[] ends = new int[0];
        for (int i = 0; i < 28; i++) {
            whiles = Check.join(whiles, Check.list(36, N1));
            untils = Check.join(untils, Check.list(37));
            ends = Check.join(ends, Check.list(N0));
        }
        // The 26 outer ones have one round each, and 274 are left: 13 times 21, and one.
        CycleController x = after(whiles, up(0));
        check.variables("28 times 36", x, 260);
        x = after(untils, up(0), ends);
        check.variables("28 times 37", x, 260);
        int[] counts = new int[0];
        for (int v = 1; v < 16; v++) {
            counts = Check.join(counts, Check.list(40 + v, N1, Check.n(40)));
        }
        // The 13 outer ones have one round each, and 287 are left: 13 times 21, then one and 13.
        x = after(counts, up(0));
        check.variables("15 times 40", x, 273, 1, 1);
        check.due("variable(14)", x.variable(14), 14);
        check.due("variable(15)", x.variable(15), 14);
    }
}
