/** "Terms": the bounds of values, programs, tokens and expressions, a test for each sentence that names one. */
public final class TermsBoundsTest {
    private static final Check check = new Check("TermsBoundsTest");
    private static final int MIN = Integer.MIN_VALUE;
    private static final int MAX = Integer.MAX_VALUE;
    private static final int BAD = CycleController.BAD;
    private static final int NONE = CycleController.NONE;
    private static final int FULL = CycleController.FULL;
    private static final int[] TRUES = { 1, 2, -1, 256, 1 << 16, MIN, MAX };

    public static void main(String[] args) {
        check.sentence("VARIABLES 0 .. 15", TermsBoundsTest::variables);
        check.sentence("a ROW of cells 0 .. 7", TermsBoundsTest::row);
        check.sentence("INPUTS 0 .. 3", TermsBoundsTest::inputs);
        check.sentence("OUTPUTS 0 .. 3", TermsBoundsTest::outputs);
        check.sentence("all ints", TermsBoundsTest::allInts);
        check.sentence("0 at first", TermsBoundsTest::zeroAtFirst);
        check.sentence("three TIMERS, three COUNTERS and three EDGES 0 .. 2 each", TermsBoundsTest::blocks);
        check.sentence("At first nothing is true, DONE and all numbers are 0.", TermsBoundsTest::nothingIsTrue);
        check.sentence("There are two PROGRAMS 0 and 1", TermsBoundsTest::twoPrograms);
        check.sentence("each is a list of at most 60 TOKENS", TermsBoundsTest::sixtyTokens);
        check.sentence("It is COMPLETE if it is one whole statement.", TermsBoundsTest::oneWholeStatement);
        check.sentence("One of them is the ACTIVE one, 0 at first.", TermsBoundsTest::activeAtFirst);
        check.sentence("All arithmetic wraps.", TermsBoundsTest::wraps);
        check.sentence("A number counts as TRUE if it is not 0.", TermsBoundsTest::truth);
        check.sentence("128 e  cell e & 7 of the row", TermsBoundsTest::cellAsked);
        check.sentence("34 e f   cell e & 7 of the row becomes f", TermsBoundsTest::cellSet);
        check.sentence("the number n, -40 .. 40 (210 .. 290)", TermsBoundsTest::numbers);
        check.sentence("quotient, to 0 (0 if f is 0)", TermsBoundsTest::quotient);
        check.sentence("remainder of that (0 if f is 0)", TermsBoundsTest::remainder);
        check.sentence("1 if e < f, else 0", TermsBoundsTest::less);
        check.sentence("1 if e = f, else 0", TermsBoundsTest::equal);
        check.sentence("1 if both are true, else 0", TermsBoundsTest::both);
        check.sentence("1 if at least one of them is true, else 0", TermsBoundsTest::either);
        check.sentence("1 if e is not true, else 0", TermsBoundsTest::not);
        check.sentence("the greater", TermsBoundsTest::greater);
        check.sentence("the lesser", TermsBoundsTest::lesser);
        check.sentence("e if c is true, else f", TermsBoundsTest::pick);
        check.sentence("s if e is true, else t", TermsBoundsTest::twoWays);
        check.sentence("s if e is 0, t if e is 1, else u", TermsBoundsTest::threeWays);
        check.end();
    }

    /** The tokens from one to another are statements, or expressions, and those beside them are not. */
    private static void tokens(boolean statements, int from, int to, boolean before, boolean after) {
        for (int token = from - 1; token <= to + 1; token++) {
            boolean good = token < from ? before : token > to ? after : true;
            CycleController x = new CycleController();
            if (statements) {
                check.due("statement " + token, x.feed(0, token), good ? 1 : BAD);
            } else {
                check.load(x, 0, 30);
                check.due("expression " + token, x.feed(0, token), good ? 2 : BAD);
            }
        }
    }

    /** What an operator comes to, over variables. */
    private static void is(int want, int operator, int... parts) {
        CycleController x = new CycleController();
        check.load(x, 0, 30, operator);
        for (int i = 0; i < parts.length; i++) {
            x.poke(i, parts[i]);
            x.feed(0, 100 + i);
        }
        x.activate(0);
        x.cycle(0);
        check.due(operator + " of " + java.util.Arrays.toString(parts), x.output(0), want);
    }

    private static void variables() {
        tokens(true, 10, 25, false, false);
        tokens(false, 100, 115, false, false);
        // Beside 40 .. 55 stand 39 and 56, which have no variable.
        tokens(true, 40, 55, true, true);
        for (int v : new int[] { 0, 15 }) {
            CycleController x = check.running(1, 10 + v, Check.n(5), 30, 100 + v);
            check.cycle(x, 0);
            check.due("variable " + v, x.variable(v), 5);
            check.due("variable " + v + " in an expression", x.output(0), 5);
            check.replace(x, 40 + v, Check.n(7), Check.n(8), 2);
            check.cycle(x, 0);
            check.due("variable " + v + " in a loop", x.variable(v), 9);
        }
        CycleController x = new CycleController();
        check.due("poke(-1, 1)", x.poke(-1, 1), BAD);
        check.due("poke(0, 1)", x.poke(0, 1), 0);
        check.due("poke(15, 1)", x.poke(15, 1), 0);
        check.due("poke(16, 1)", x.poke(16, 1), BAD);
        check.due("digest()", x.digest(), 17);
    }

    private static void row() {
        CycleController x = check.running(34, 100, 101);
        for (int c = 0; c < 8; c++) {
            x.poke(0, c);
            x.poke(1, c + 1);
            check.cycle(x, 0);
        }
        for (int c = -1; c <= 8; c++) {
            check.due("cell(" + c + ")", x.cell(c), c >= 0 && c <= 7 ? c + 1 : 0);
        }
        // 128 is the one token of the row, and 129 is none.
        tokens(false, 128, 128, true, false);
    }

    private static void inputs() {
        tokens(false, 120, 123, false, true);
        CycleController x = check.running(1, 10, 120, 1, 11, 121, 1, 12, 122, 1, 13, 123, 14, 124);
        for (int i = -1; i <= 4; i++) {
            check.due("input(" + i + ", ..)", x.input(i, 5 + i), i >= 0 && i <= 3 ? 0 : BAD);
        }
        check.cycle(x, 0);
        check.variables("inputs 0 to 3, and an output", x, 5, 6, 7, 8, 0);
    }

    private static void outputs() {
        // Beside 30 .. 33 stands 34, beside 124 .. 127 stand an input and a cell.
        tokens(true, 30, 33, false, true);
        tokens(false, 124, 127, true, true);
        CycleController x = check.running(1, 30, Check.n(5), 1, 31, Check.n(6), 1, 32, Check.n(7), 1, 33, Check.n(8),
            1, 10, 124, 1, 11, 125, 1, 12, 126, 1, 13, 127, 14, 128, Check.n(0));
        check.cycle(x, 0);
        for (int o = -1; o <= 4; o++) {
            check.due("output(" + o + ")", x.output(o), o >= 0 && o <= 3 ? 5 + o : 0);
        }
        check.variables("outputs 0 to 3, and a cell", x, 5, 6, 7, 8, 0);
    }

    private static void allInts() {
        CycleController x = check.running(1, 10, 120, 1, 30, 100, 34, Check.n(7), 124);
        for (int value : Check.EDGE_NUMBERS) {
            check.due("input(0, " + value + ")", x.input(0, value), 0);
            check.cycle(x, 0);
            check.due("variable", x.variable(0), value);
            check.due("output", x.output(0), value);
            check.due("cell", x.cell(7), value);
            check.due("poke(15, " + value + ")", x.poke(15, value), 0);
            check.due("variable(15)", x.variable(15), value);
        }
    }

    private static void zeroAtFirst() {
        CycleController x = new CycleController();
        check.zeros(x);
        check.load(x, 0, 1, 10, 120, 1, 11, 121, 1, 12, 122, 13, 123);
        for (int v = 0; v < 4; v++) {
            x.poke(v, 9);
        }
        x.activate(0);
        check.cycle(x, 0);
        check.variables("inputs", x, 0, 0, 0, 0);
    }

    private static void blocks() {
        tokens(true, 60, 68, false, false);
        // Before 143 stands 142, which is no block.
        tokens(false, 143, 157, true, false);
        int n1 = Check.n(1);
        for (int k = 0; k < 3; k++) {
            CycleController x = check.running(1, 60 + k, n1, Check.n(0), 1, 63 + k, n1, Check.n(0), n1, 66 + k, n1);
            check.cycle(x, 0);
            for (int other = 0; other < 3; other++) {
                int due = other == k ? 1 : 0;
                check.block("only " + k, x, other, 0, due, due, due, due);
            }
        }
    }

    /** A block that was true already would not begin, count or be an edge. */
    private static void nothingIsTrue() {
        int n1 = Check.n(1);
        for (int k = 0; k < 3; k++) {
            CycleController x = check.running(1, 60 + k, n1, n1, 1, 63 + k, n1, Check.n(0), n1, 66 + k, n1);
            check.block("before", x, k, 0, 0, 0, 0, 0);
            check.cycle(x, 100);
            check.block("after", x, k, 0, 0, 1, 1, 1);
        }
        CycleController x = new CycleController();
        check.due("digest()", x.digest(), 0);
    }

    private static void twoPrograms() {
        CycleController x = new CycleController();
        for (int p : Check.EDGE_NUMBERS) {
            boolean good = p == 0 || p == 1;
            check.due("feed(" + p + ", 2)", x.feed(p, 2), good ? 1 : BAD);
            check.due("complete(" + p + ")", x.complete(p), good ? 1 : BAD);
            check.due("activate(" + p + ")", x.activate(p), good ? 0 : BAD);
            check.due("halt()", x.halt(), good ? 1 : 0);
            check.due("back(" + p + ")", x.back(p), good ? 0 : BAD);
            check.due("erase(" + p + ")", x.erase(p), good ? 0 : BAD);
        }
    }

    /** Both programs have sixty, of which none is lost and none gets into the other one. */
    private static void sixtyTokens() {
        CycleController x = new CycleController();
        for (int p = 0; p < 2; p++) {
            check.load(x, p, 10 + p);
            for (int i = 2; i <= 58; i++) {
                check.due("feed, token " + i, x.feed(p, 139), i);
            }
            check.due("token 59", x.feed(p, 139), 59);
            check.due("not whole", x.complete(p), 0);
            check.due("token 60", x.feed(p, 103), 60);
            check.due("whole", x.complete(p), 1);
            check.due("token 61", x.feed(p, 2), FULL);
        }
        x.poke(3, 7);
        for (int p = 0; p < 2; p++) {
            x.activate(p);
            check.cycle(x, 0);
            check.due("58 times not", x.variable(p), 1);
        }
        x.halt();
        for (int p = 0; p < 2; p++) {
            check.due("erase", x.erase(p), 60);
            for (int i = 1; i <= 60; i++) {
                x.feed(p, 1);
            }
            check.due("sixty that are not whole", x.complete(p), 0);
            check.due("token 61", x.feed(p, 1), FULL);
            check.due("activate", x.activate(p), NONE);
            check.due("erase", x.erase(p), 60);
        }
    }

    private static void oneWholeStatement() {
        CycleController x = new CycleController();
        check.due("no token", x.complete(0), 0);
        check.due("an expression is none", x.feed(0, 250), BAD);
        check.due("still none", x.complete(0), 0);
        int[] tokens = { 56, 142, 100, 101, 139, 102, 37, 2, 250, 1, 39, 2, 40, 250, 251, 63, 250, 250, 250 };
        for (int i = 0; i < tokens.length; i++) {
            check.due("feed", x.feed(0, tokens[i]), i + 1);
            check.due("complete with " + (i + 1), x.complete(0), i + 1 == tokens.length ? 1 : 0);
        }
        check.due("a second statement", x.feed(0, 2), FULL);
        check.due("back", x.back(0), tokens.length - 1);
        check.due("one less", x.complete(0), 0);
    }

    private static void activeAtFirst() {
        CycleController x = new CycleController();
        check.load(x, 1, 2);
        check.due("activate(1)", x.activate(1), 0);
        CycleController y = new CycleController();
        check.load(y, 0, 2);
        check.due("activate(0)", y.activate(0), 0);
    }

    private static void wraps() {
        is(MIN, 130, MAX, 1);
        is(MAX, 130, MIN, -1);
        is(0, 130, MIN, MIN);
        is(MAX, 131, MIN, 1);
        is(MIN, 131, MAX, -1);
        is(MIN, 131, 0, MIN);
        is(-2, 132, MAX, 2);
        is(0, 132, 1 << 16, 1 << 16);
        is(MIN, 132, MIN, -1);
        is(MIN, 133, MIN, -1);
        is(0, 134, MIN, -1);
        CycleController x = check.running(40, 101, 101, 2);
        x.poke(1, MAX);
        check.cycle(x, 0);
        check.due("variable v + 1 of a loop", x.variable(0), MAX + 20);
    }

    private static void truth() {
        CycleController x = check.running(
            1, 35, 120, 10, Check.n(1), 10, Check.n(2), 1, 60, 120, Check.n(0), 66, 120);
        for (int e : TRUES) {
            x.input(0, e);
            check.cycle(x, 0);
            check.due(e + " is true", x.variable(0), 1);
            check.block(e + " is true", x, 0, 0, 1, 0, 0, 1);
            x.input(0, 0);
            check.cycle(x, 0);
            check.due("0 is not", x.variable(0), 2);
            check.block("0 is not", x, 0, 0, 0, 0, 0, 0);
        }
        for (int e : TRUES) {
            CycleController y = check.running(1, 36, 100, 1, 11, Check.n(5), 10, Check.n(0),
                1, 37, 12, 130, 102, Check.n(1), 103, 63, 103, 104, Check.n(9));
            y.poke(0, e);
            y.poke(3, e);
            check.cycle(y, 0);
            check.variables("the loops with " + e, y, 0, 5, 1);
            check.block("the counter with " + e, y, 0, 0, 0, 1, 0);
            y.poke(4, e);
            check.cycle(y, 0);
            check.block("the counter, set back with " + e, y, 0, 0, 0, 0, 0);
        }
    }

    private static CycleController rowFrom10() {
        CycleController x = check.running(40, Check.n(0), Check.n(7), 34, 100, 130, 100, Check.n(10));
        check.cycle(x, 0);
        return x;
    }

    private static void cellAsked() {
        CycleController x = rowFrom10();
        check.replace(x, 30, 128, 100);
        for (int e : Check.EDGE_NUMBERS) {
            x.poke(0, e);
            check.cycle(x, 0);
            check.due("128 with " + e, x.output(0), 10 + (e & 7));
        }
        is(0, 128, -1);
    }

    private static void cellSet() {
        for (int e : Check.EDGE_NUMBERS) {
            CycleController x = rowFrom10();
            check.replace(x, 34, 100, Check.n(-5));
            x.poke(0, e);
            check.cycle(x, 0);
            for (int c = 0; c < 8; c++) {
                check.due("34 with " + e + ": cell " + c, x.cell(c), c == (e & 7) ? -5 : 10 + c);
            }
        }
    }

    private static void numbers() {
        tokens(false, 210, 290, false, false);
        is(-40, 210);
        is(-1, 249);
        is(0, 250);
        is(1, 251);
        is(40, 290);
    }

    private static void quotient() {
        is(0, 133, 7, 0);
        is(0, 133, 0, 0);
        is(0, 133, MIN, 0);
        is(0, 133, MAX, 0);
        is(3, 133, 7, 2);
        is(-3, 133, -7, 2);
        is(-3, 133, 7, -2);
        is(3, 133, -7, -2);
        is(0, 133, -1, 2);
        is(-1, 133, MAX, -MAX);
        is(MIN, 133, MIN, 1);
    }

    private static void remainder() {
        is(0, 134, 7, 0);
        is(0, 134, 0, 0);
        is(0, 134, MIN, 0);
        is(0, 134, MAX, 0);
        is(1, 134, 7, 2);
        is(-1, 134, -7, 2);
        is(1, 134, 7, -2);
        is(-1, 134, -7, -2);
        is(-1, 134, -1, 2);
        is(-1, 134, MIN, MAX);
        is(MAX, 134, MAX, MIN);
    }

    private static void less() {
        is(0, 135, 3, 3);
        is(1, 135, 2, 3);
        is(0, 135, 3, 2);
        is(1, 135, MIN, MAX);
        is(0, 135, MAX, MIN);
        is(1, 135, MIN, 1);
        is(0, 135, MIN, MIN);
        is(0, 135, MAX, MAX);
        is(1, 135, -1, 0);
    }

    private static void equal() {
        is(1, 136, 0, 0);
        is(1, 136, MIN, MIN);
        is(1, 136, MAX, MAX);
        is(1, 136, -1, -1);
        is(0, 136, 1, -1);
        is(0, 136, MIN, MAX);
        is(0, 136, MIN, 0);
        is(0, 136, 1, 257);
        is(1, 136, 1000, 1000);
    }

    private static void both() {
        is(0, 137, 0, 0);
        for (int e : TRUES) {
            is(0, 137, e, 0);
            is(0, 137, 0, e);
            is(1, 137, e, e);
        }
        // No bit is in both of them.
        is(1, 137, 1, 2);
    }

    private static void either() {
        is(0, 138, 0, 0);
        for (int e : TRUES) {
            is(1, 138, e, 0);
            is(1, 138, 0, e);
            is(1, 138, e, e);
            // Their sum is 0.
            is(1, 138, e, -e);
        }
    }

    private static void not() {
        is(1, 139, 0);
        for (int e : TRUES) {
            is(0, 139, e);
        }
    }

    private static void greater() {
        is(MAX, 140, MIN, MAX);
        is(MAX, 140, MAX, MIN);
        is(1, 140, MIN, 1);
        is(0, 140, 0, -1);
        is(5, 140, 5, 5);
    }

    private static void lesser() {
        is(MIN, 141, MIN, MAX);
        is(MIN, 141, MAX, MIN);
        is(MIN, 141, MIN, 1);
        is(-1, 141, 0, -1);
        is(5, 141, 5, 5);
    }

    private static void pick() {
        is(8, 142, 0, 7, 8);
        for (int c : TRUES) {
            is(7, 142, c, 7, 8);
        }
        is(MIN, 142, 0, MAX, MIN);
        is(MAX, 142, 1, MAX, MIN);
    }

    private static void twoWays() {
        CycleController x = check.running(1, 35, 101, 10, Check.n(7), 10, Check.n(8), 12, 130, 102, Check.n(1));
        int cycles = 0;
        for (int e : Check.EDGE_NUMBERS) {
            x.poke(1, e);
            check.cycle(x, 0);
            cycles++;
            check.variables("35 with " + e, x, e == 0 ? 8 : 7, e, cycles);
        }
    }

    private static void threeWays() {
        CycleController x = check.running(
            1, 56, 101, 10, Check.n(7), 10, Check.n(8), 10, Check.n(9), 12, 130, 102, Check.n(1));
        int cycles = 0;
        for (int e : Check.EDGE_NUMBERS) {
            x.poke(1, e);
            check.cycle(x, 0);
            cycles++;
            check.variables("56 with " + e, x, e == 0 ? 7 : e == 1 ? 8 : 9, e, cycles);
        }
    }
}
