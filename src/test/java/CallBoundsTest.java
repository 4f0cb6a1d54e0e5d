/** Promises 1 to 16: each refusal, its edges and its place in the order, a test for each sentence. */
public final class CallBoundsTest {
    private static final Check check = new Check("CallBoundsTest");
    private static final int BAD = CycleController.BAD;
    private static final int NONE = CycleController.NONE;
    private static final int FULL = CycleController.FULL;
    private static final int MIN = Integer.MIN_VALUE;
    private static final int MAX = Integer.MAX_VALUE;
    private static final int[] NOT_GOOD = { MIN, -2, -1, 2, 3, 256, 257, MAX };

    public static void main(String[] args) {
        check.sentence("Promise 1: both programs have no tokens", CallBoundsTest::newObject);
        check.sentence("feed: p is not good: BAD", CallBoundsTest::feedNotGood);
        check.sentence("feed: it is the active one, and the controller is running: NONE", CallBoundsTest::feedRunning);
        check.sentence("feed: it is complete .. : FULL", CallBoundsTest::feedComplete);
        check.sentence("feed: or has 60 tokens: FULL", CallBoundsTest::feedSixty);
        check.sentence("feed: the token can't come there, as a statement or an expression: BAD",
            CallBoundsTest::feedToken);
        check.sentence("feed: Else answers how many tokens it has then.", CallBoundsTest::feedAnswers);
        check.sentence("back: p is not good: BAD", CallBoundsTest::backNotGood);
        check.sentence("back: it is the active one, and the controller is running: NONE", CallBoundsTest::backRunning);
        check.sentence("back: it has none: NONE", CallBoundsTest::backNone);
        check.sentence("back: Else answers how many are left.", CallBoundsTest::backAnswers);
        check.sentence("erase: p is not good: BAD", CallBoundsTest::eraseNotGood);
        check.sentence("erase: it is the active one, and the controller is running: NONE",
            CallBoundsTest::eraseRunning);
        check.sentence("erase: Else answers how many there were.", CallBoundsTest::eraseAnswers);
        check.sentence("complete: 1 if a program is complete, else 0", CallBoundsTest::completeAnswers);
        check.sentence("complete: p is not good: BAD", CallBoundsTest::completeNotGood);
        check.sentence("activate: p is not good: BAD", CallBoundsTest::activateNotGood);
        check.sentence("activate: it is not complete: NONE", CallBoundsTest::activateNotComplete);
        check.sentence("activate: Else answers the one that was active.", CallBoundsTest::activateAnswers);
        check.sentence("halt: Answers 1 if it was running, else 0. (It is not running at first.)",
            CallBoundsTest::haltAnswers);
        check.sentence("input: i is not 0 .. 3: BAD. Else answers 0.", CallBoundsTest::inputAnswers);
        check.sentence("cycle: ticks is not 0 .. 100: BAD", CallBoundsTest::cycleTicks);
        check.sentence("cycle: the controller is not running: NONE", CallBoundsTest::cycleNotRunning);
        check.sentence("cycle: The time goes on by so many ticks", CallBoundsTest::cycleTime);
        check.sentence("restart: Variables 4 .. 15 .. become what they are at first; variables 0 .. 3 .. stay",
            CallBoundsTest::restartVariables);
        check.sentence("restart: the row, the outputs .. become what they are at first; .. inputs .. stay",
            CallBoundsTest::restartRowAndOutputs);
        check.sentence("restart: all of timers, counters and edges become what they are at first",
            CallBoundsTest::restartBlocks);
        check.sentence("variable: v is not 0 .. 15: 0", CallBoundsTest::variableAnswers);
        check.sentence("poke: v is not 0 .. 15: BAD. Else answers 0.", CallBoundsTest::pokeAnswers);
        check.sentence("cell: c is not 0 .. 7: 0", CallBoundsTest::cellAnswers);
        check.sentence("output: o is not 0 .. 3: 0", CallBoundsTest::outputAnswers);
        check.sentence("block: k is not 0 .. 2, or what is not 0 .. 4: 0", CallBoundsTest::blockAnswers);
        check.sentence("digest: The sum, wrapping", CallBoundsTest::digestWraps);
        check.sentence("digest: (v + 1), (c + 17), (o + 25), (5 * k + what + 29), over all of these",
            CallBoundsTest::digestOverAll);
        check.sentence("An object is used for at most 512 calls", CallBoundsTest::lastCall);
        check.end();
    }

    /** Program 1 is active, and runs or has been halted; program 0 is empty. */
    private static CycleController active1(boolean running) {
        CycleController x = new CycleController();
        check.load(x, 1, 10, 130, 100, 251);
        check.due("activate(1)", x.activate(1), 0);
        if (!running) {
            check.due("halt()", x.halt(), 1);
        }
        return x;
    }

    private static CycleController withTokens(int p, int count) {
        CycleController x = new CycleController();
        for (int i = 1; i <= count; i++) {
            check.due("feed(" + p + ", 1)", x.feed(p, 1), i);
        }
        return x;
    }

    private static void newObject() {
        CycleController x = new CycleController();
        for (int p = 0; p < 2; p++) {
            check.due("complete", x.complete(p), 0);
            check.due("back", x.back(p), NONE);
            check.due("activate", x.activate(p), NONE);
            check.due("erase", x.erase(p), 0);
        }
        check.due("the first token", x.feed(0, 1), 1);
        check.due("the other one's first token", x.feed(1, 1), 1);
    }

    private static void feedNotGood() {
        CycleController x = active1(true);
        for (int p : NOT_GOOD) {
            check.due("while running: " + p, x.feed(p, 2), BAD);
            check.due("with a wrong token: " + p, x.feed(p, 999), BAD);
        }
        CycleController y = new CycleController();
        for (int p : NOT_GOOD) {
            check.due("new: " + p, y.feed(p, 2), BAD);
        }
        check.due("none came to 0", y.erase(0), 0);
        check.due("none came to 1", y.erase(1), 0);
    }

    private static void feedRunning() {
        CycleController x = active1(true);
        check.due("before FULL", x.feed(1, 2), NONE);
        check.due("before BAD for the token", x.feed(1, 999), NONE);
        check.due("the other one", x.feed(0, 10), 1);
        x = active1(false);
        check.due("not running any more", x.feed(1, 2), FULL);
        check.due("back", x.back(1), 3);
        check.due("not running any more", x.feed(1, 251), 4);
        check.due("the other one", x.feed(0, 10), 1);
        x = new CycleController();
        check.due("active at first, but not running", x.feed(0, 2), 1);
        check.due("activate", x.activate(0), 0);
        check.due("running now", x.feed(0, 2), NONE);
    }

    private static void feedComplete() {
        for (int p = 0; p < 2; p++) {
            CycleController x = new CycleController();
            check.load(x, p, 2);
            check.due("a statement", x.feed(p, 2), FULL);
            check.due("an expression", x.feed(p, 250), FULL);
            check.due("before BAD for the token", x.feed(p, 999), FULL);
            check.due("the other one", x.feed(1 - p, 2), 1);
        }
        CycleController x = active1(true);
        check.load(x, 0, 2);
        check.due("another one runs", x.feed(0, 2), FULL);
    }

    private static void feedSixty() {
        for (int p = 0; p < 2; p++) {
            CycleController x = withTokens(p, 59);
            check.due("token 60", x.feed(p, 2), 60);
            check.due("token 61", x.feed(p, 2), FULL);
            check.due("before BAD for the kind", x.feed(p, 250), FULL);
            check.due("before BAD for the token", x.feed(p, 999), FULL);
            check.due("back", x.back(p), 59);
            check.due("there is room again", x.feed(p, 999), BAD);
            check.due("token 60", x.feed(p, 1), 60);
            check.due("token 61", x.feed(p, 1), FULL);
            check.due("the other one", x.feed(1 - p, 1), 1);
            check.due("sixty are left", x.erase(p), 60);
        }
    }

    private static void feedToken() {
        for (int p = 0; p < 2; p++) {
            CycleController x = new CycleController();
            for (int token : new int[] { MIN, -1, 0, 3, 9, 26, 29, 38, 57, 59, 69, 99, 100, 250, 999, MAX }) {
                check.due("no statement: " + token, x.feed(p, token), BAD);
            }
            check.load(x, p, 30);
            int[] tokens = { MIN, -1, 0, 1, 2, 39, 68, 99, 116, 119, 129, 158, 209, 291, 999, MAX };
            for (int token : tokens) {
                check.due("no expression: " + token, x.feed(p, token), BAD);
            }
            check.due("one has come", x.erase(p), 1);
        }
        // Of 37 the statement comes first, of all others the expressions.
        CycleController x = new CycleController();
        check.load(x, 0, 37);
        check.due("37, first part", x.feed(0, 250), BAD);
        check.due("37, first part", x.feed(0, 2), 2);
        check.due("37, second part", x.feed(0, 2), BAD);
        check.due("37, second part", x.feed(0, 250), 3);
        check.load(x, 1, 36);
        check.due("36, first part", x.feed(1, 2), BAD);
        check.due("36, first part", x.feed(1, 250), 2);
        check.due("36, second part", x.feed(1, 250), BAD);
        check.due("36, second part", x.feed(1, 2), 3);
    }

    private static void feedAnswers() {
        CycleController x = new CycleController();
        check.due("first", x.feed(1, 1), 1);
        check.due("refused", x.feed(1, 250), BAD);
        check.due("second", x.feed(1, 1), 2);
        check.due("back", x.back(1), 1);
        check.due("second again", x.feed(1, 2), 2);
        check.due("of the other one", x.feed(0, 2), 1);
    }

    private static void backNotGood() {
        for (CycleController x : new CycleController[] { new CycleController(), active1(true), active1(false) }) {
            for (int p : NOT_GOOD) {
                check.due("back(" + p + ")", x.back(p), BAD);
            }
        }
    }

    private static void backRunning() {
        CycleController x = active1(true);
        check.due("the active one", x.back(1), NONE);
        check.due("feed", x.feed(0, 2), 1);
        check.due("the other one", x.back(0), 0);
        x.halt();
        check.due("not running any more", x.back(1), 3);
    }

    private static void backNone() {
        CycleController x = new CycleController();
        check.due("new", x.back(0), NONE);
        check.due("new", x.back(1), NONE);
        check.load(x, 0, 2);
        check.due("the last one", x.back(0), 0);
        check.due("no more", x.back(0), NONE);
        check.due("none below none", x.feed(0, 2), 1);
        check.load(x, 1, 1, 2);
        x.erase(1);
        check.due("after erase", x.back(1), NONE);
    }

    private static void backAnswers() {
        for (int p = 0; p < 2; p++) {
            CycleController x = withTokens(p, 60);
            for (int left = 59; left >= 0; left--) {
                check.due("back(" + p + ")", x.back(p), left);
            }
            check.due("back(" + p + ")", x.back(p), NONE);
        }
    }

    private static void eraseNotGood() {
        for (CycleController x : new CycleController[] { new CycleController(), active1(true), active1(false) }) {
            for (int p : NOT_GOOD) {
                check.due("erase(" + p + ")", x.erase(p), BAD);
            }
        }
    }

    private static void eraseRunning() {
        CycleController x = active1(true);
        check.due("the active one", x.erase(1), NONE);
        check.due("the other one, empty", x.erase(0), 0);
        x.halt();
        check.due("not running any more", x.erase(1), 4);
    }

    private static void eraseAnswers() {
        for (int p = 0; p < 2; p++) {
            CycleController x = new CycleController();
            check.due("empty", x.erase(p), 0);
            x.feed(p, 2);
            x.feed(1 - p, 1);
            check.due("one", x.erase(p), 1);
            check.due("none is left", x.erase(p), 0);
            check.due("the other one has its own", x.erase(1 - p), 1);
            check.due("sixty", withTokens(p, 60).erase(p), 60);
        }
    }

    private static void completeAnswers() {
        for (int p = 0; p < 2; p++) {
            CycleController x = new CycleController();
            check.due("empty", x.complete(p), 0);
            check.load(x, p, 2);
            check.due("the shortest", x.complete(p), 1);
            check.due("the other one", x.complete(1 - p), 0);
            x.back(p);
            check.due("empty again", x.complete(p), 0);
            check.due("sixty that are not whole", withTokens(p, 60).complete(p), 0);
        }
        CycleController x = active1(true);
        check.due("while it runs", x.complete(1), 1);
        check.due("the other one, while it runs", x.complete(0), 0);
    }

    private static void completeNotGood() {
        for (CycleController x : new CycleController[] { new CycleController(), active1(true), active1(false) }) {
            for (int p : NOT_GOOD) {
                check.due("complete(" + p + ")", x.complete(p), BAD);
            }
        }
    }

    private static void activateNotGood() {
        for (CycleController x : new CycleController[] { new CycleController(), active1(true), active1(false) }) {
            for (int p : NOT_GOOD) {
                check.due("activate(" + p + ")", x.activate(p), BAD);
            }
        }
    }

    private static void activateNotComplete() {
        CycleController x = new CycleController();
        check.due("empty", x.activate(0), NONE);
        check.due("empty", x.activate(1), NONE);
        check.load(x, 0, 10);
        check.due("one token", x.activate(0), NONE);
        check.due("not running", x.halt(), 0);
        check.due("sixty that are not whole", withTokens(1, 60).activate(1), NONE);
        x = active1(true);
        check.load(x, 0, 1, 2);
        check.due("while the other one runs", x.activate(0), NONE);
        check.due("which goes on", x.cycle(0), 0);
        check.due("which went on", x.variable(0), 1);
        x.halt();
        x.back(1);
        check.due("the active one, not whole any more", x.activate(1), NONE);
        check.due("not running", x.cycle(0), NONE);
    }

    private static void activateAnswers() {
        CycleController x = active1(true);
        check.load(x, 0, 2);
        check.due("itself, while it runs", x.activate(1), 1);
        check.due("from 1 to 0", x.activate(0), 1);
        check.due("from 0 to 1", x.activate(1), 0);
        x.halt();
        check.due("halted: 1 is still the active one", x.activate(1), 1);
        check.due("runs again", x.cycle(0), 0);
    }

    private static void haltAnswers() {
        CycleController x = new CycleController();
        check.due("at first", x.halt(), 0);
        check.load(x, 0, 2);
        check.due("complete, but not running", x.halt(), 0);
        x.activate(0);
        check.due("running", x.halt(), 1);
        check.due("not any more", x.halt(), 0);
        x.activate(0);
        x.activate(0);
        check.due("activated twice", x.halt(), 1);
        check.due("halted once", x.halt(), 0);
    }

    private static void inputAnswers() {
        CycleController x = check.running(1, 10, 120, 1, 11, 121, 1, 12, 122, 13, 123);
        for (int i : new int[] { MIN, -1, 4, 5, 256, MAX }) {
            check.due("input(" + i + ", 9)", x.input(i, 9), BAD);
        }
        check.cycle(x, 0);
        check.variables("none was set", x, 0, 0, 0, 0);
        for (int i = 0; i < 4; i++) {
            check.due("input(" + i + ", ..)", x.input(i, i == 3 ? MIN : MAX - i), 0);
        }
        check.cycle(x, 0);
        check.variables("all were set", x, MAX, MAX - 1, MAX - 2, MIN);
        check.due("the answer is 0 for -1 too", x.input(0, -1), 0);
    }

    private static void cycleTicks() {
        CycleController x = active1(true);
        for (int ticks : new int[] { MIN, -100, -1, 101, 102, 356, MAX }) {
            check.due("cycle(" + ticks + ")", x.cycle(ticks), BAD);
        }
        check.variables("no cycle", x, 0);
        check.due("cycle(0)", x.cycle(0), 0);
        check.due("cycle(1)", x.cycle(1), 0);
        check.due("cycle(99)", x.cycle(99), 0);
        check.due("cycle(100)", x.cycle(100), 0);
        check.variables("four cycles", x, 4);
    }

    private static void cycleNotRunning() {
        CycleController x = active1(false);
        check.due("after the test of the ticks", x.cycle(-1), BAD);
        check.due("after the test of the ticks", x.cycle(101), BAD);
        check.due("cycle(0)", x.cycle(0), NONE);
        check.due("cycle(100)", x.cycle(100), NONE);
        check.variables("no cycle", x, 0);
        CycleController y = new CycleController();
        check.due("new", y.cycle(0), NONE);
        check.due("new, after the test of the ticks", y.cycle(101), BAD);
    }

    private static void cycleTime() {
        CycleController x = check.running(60, 251, 132, 290, 290);
        check.cycle(x, 100);
        int[] ticks = { 0, 1, 100, 100, 0, 99 };
        int time = 0;
        for (int each : ticks) {
            check.cycle(x, each);
            time += each;
            check.due("ELAPSED", x.block(0, 0), time);
        }
        check.due("a cycle that is refused", x.cycle(101), BAD);
        x.halt();
        check.due("a cycle that is refused", x.cycle(100), NONE);
        x.activate(0);
        check.cycle(x, 0);
        check.due("takes no time", x.block(0, 0), time);
    }

    private static void restartVariables() {
        CycleController x = new CycleController();
        for (int v = 0; v < 16; v++) {
            x.poke(v, 70 + v);
        }
        x.restart();
        for (int v = 0; v < 16; v++) {
            check.due("variable(" + v + ")", x.variable(v), v <= 3 ? 70 + v : 0);
        }
    }

    private static void restartRowAndOutputs() {
        CycleController x = check.running(1, 44, Check.n(0), Check.n(7), 34, 104, Check.n(3),
            1, 30, 120, 1, 31, 121, 1, 32, 122, 33, 123);
        for (int i = 0; i < 4; i++) {
            x.input(i, 40 + i);
        }
        check.cycle(x, 0);
        x.restart();
        for (int c = 0; c < 8; c++) {
            check.due("cell(" + c + ")", x.cell(c), 0);
        }
        for (int o = 0; o < 4; o++) {
            check.due("output(" + o + ")", x.output(o), 0);
        }
        check.cycle(x, 0);
        for (int o = 0; o < 4; o++) {
            check.due("inputs have stayed: output(" + o + ")", x.output(o), 40 + o);
        }
    }

    private static void restartBlocks() {
        for (int k = 0; k < 3; k++) {
            CycleController x = check.running(
                1, 60 + k, 251, Check.n(5), 1, 63 + k, 251, 250, 251, 66 + k, 251);
            check.cycle(x, 0);
            check.cycle(x, 5);
            check.block("before", x, k, 5, 1, 1, 1, 0);
            x.restart();
            check.block("after", x, k, 0, 0, 0, 0, 0);
            check.cycle(x, 5);
            check.block("ON and LAST are not true, BEGIN is anew", x, k, 0, 0, 1, 1, 1);
        }
    }

    private static void variableAnswers() {
        CycleController x = new CycleController();
        for (int v = 0; v < 16; v++) {
            x.poke(v, -1 - v);
        }
        for (int v : new int[] { MIN, -16, -1, 16, 17, 256, MAX }) {
            check.due("variable(" + v + ")", x.variable(v), 0);
        }
        check.due("variable(0)", x.variable(0), -1);
        check.due("variable(15)", x.variable(15), -16);
    }

    private static void pokeAnswers() {
        CycleController x = new CycleController();
        for (int v : new int[] { MIN, -16, -1, 16, 17, 256, MAX }) {
            check.due("poke(" + v + ", 9)", x.poke(v, 9), BAD);
        }
        check.due("none was set", x.digest(), 0);
        check.due("poke(0, ..)", x.poke(0, MIN), 0);
        check.due("poke(15, ..)", x.poke(15, MAX), 0);
        check.due("variable(0)", x.variable(0), MIN);
        check.due("variable(15)", x.variable(15), MAX);
    }

    private static void cellAnswers() {
        CycleController x = check.running(44, Check.n(0), Check.n(7), 34, 104, 130, 104, Check.n(3));
        check.cycle(x, 0);
        for (int c : new int[] { MIN, -8, -1, 8, 9, 15, 256, MAX }) {
            check.due("cell(" + c + ")", x.cell(c), 0);
        }
        check.due("cell(0)", x.cell(0), 3);
        check.due("cell(7)", x.cell(7), 10);
    }

    private static void outputAnswers() {
        CycleController x = check.running(1, 30, Check.n(6), 1, 31, Check.n(7), 1, 32, Check.n(8), 33, Check.n(9));
        check.cycle(x, 0);
        for (int o : new int[] { MIN, -4, -1, 4, 5, 256, MAX }) {
            check.due("output(" + o + ")", x.output(o), 0);
        }
        check.due("output(0)", x.output(0), 6);
        check.due("output(3)", x.output(3), 9);
    }

    /** All of each block is 1 or more, but for the edges, which come last. */
    private static void blockAnswers() {
        CycleController x = new CycleController();
        int[] program = new int[0];
        for (int k = 0; k < 3; k++) {
            program = Check.join(program, Check.list(1, 60 + k, 251, 251, 1, 63 + k, 251, 250, 251));
        }
        check.replace(x, Check.join(program, Check.list(2)));
        check.cycle(x, 0);
        check.cycle(x, 1);
        check.replace(x, 1, 66, 251, 1, 67, 251, 68, 251);
        check.cycle(x, 0);
        for (int k = -1; k <= 3; k++) {
            for (int what = -1; what <= 5; what++) {
                boolean good = k >= 0 && k <= 2 && what >= 0 && what <= 4;
                check.due("block(" + k + ", " + what + ")", x.block(k, what), good ? 1 : 0);
            }
        }
        for (int wrong : new int[] { MIN, -3, 256, MAX }) {
            check.due("block(" + wrong + ", 0)", x.block(wrong, 0), 0);
            check.due("block(0, " + wrong + ")", x.block(0, wrong), 0);
            check.due("block(" + wrong + ", " + wrong + ")", x.block(wrong, wrong), 0);
        }
    }

    private static void digestWraps() {
        CycleController x = new CycleController();
        x.poke(1, MAX);
        check.due("2 * MAX", x.digest(), -2);
        x.poke(0, MIN);
        check.due("2 * MAX + MIN", x.digest(), MAX - 1);
        x = new CycleController();
        x.poke(0, MAX);
        x.poke(1, 1);
        check.due("MAX + 2", x.digest(), MIN + 1);
        x = check.running(34, Check.n(7), 100);
        x.poke(0, MIN);
        x.cycle(0);
        check.due("MIN + 24 * MIN", x.digest(), MIN);
    }

    private static void digestOverAll() {
        int[][] rows = { { 0, 1 }, { 15, 16 } };
        for (int[] row : rows) {
            CycleController x = new CycleController();
            x.poke(row[0], -1);
            check.due("variable " + row[0], x.digest(), -row[1]);
        }
        int[][] programs = { // the program's weight, and the program
            { 17, 34, 250, 251 }, { 24, 34, 257, 251 }, { 25, 30, 251 }, { 28, 33, 251 },
            { 30, 60, 251, 250 }, { 40, 62, 251, 250 }, { 31, 63, 251, 250, 252 }, { 41, 65, 251, 250, 252 },
            { 32, 63, 250, 250, 250 }, { 42, 65, 250, 250, 250 }, { 33, 66, 251 }, { 43, 68, 251 } };
        for (int[] program : programs) {
            CycleController x = check.running(java.util.Arrays.copyOfRange(program, 1, program.length));
            check.cycle(x, 0);
            check.due("program with " + program[1], x.digest(), program[0]);
        }
        for (int k = 0; k < 3; k += 2) {
            CycleController x = check.running(60 + k, 251, 290);
            check.cycle(x, 0);
            check.cycle(x, 1);
            check.due("ELAPSED of timer " + k, x.digest(), 5 * k + 29);
        }
    }

    private static void lastCall() {
        CycleController x = active1(true);
        for (int call = 6; call <= 511; call++) {
            check.due("call " + call, x.cycle(100), 0);
        }
        check.due("call 512", x.variable(0), 506);
    }
}
