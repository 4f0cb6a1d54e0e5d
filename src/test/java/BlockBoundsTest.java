/** "Terms" and promise 17: the edges of what timers, counters and edges do, a test for each sentence. */
public final class BlockBoundsTest {
    private static final Check check = new Check("BlockBoundsTest");
    private static final int N0 = Check.n(0);
    private static final int N1 = Check.n(1);
    private static final int MIN = Integer.MIN_VALUE;
    private static final int MAX = Integer.MAX_VALUE;

    public static void main(String[] args) {
        check.sentence("if it is not ON, it becomes ON, and its BEGIN is the time", BlockBoundsTest::timerBegins);
        check.sentence("its ELAPSED is the time minus its BEGIN, or f if this is less", BlockBoundsTest::elapsed);
        check.sentence("(but not below 0)", BlockBoundsTest::elapsedNotBelowZero);
        check.sentence("its DONE is 1 if the time minus its BEGIN is f or more, else 0", BlockBoundsTest::timerDone);
        check.sentence("If e is not true: it is not ON, ELAPSED and DONE become 0.", BlockBoundsTest::timerOff);
        check.sentence("if f is true, VALUE becomes 0", BlockBoundsTest::counterSetBack);
        check.sentence("else if e is true and LAST is not, VALUE becomes VALUE + 1", BlockBoundsTest::counterCounts);
        check.sentence("Then LAST becomes whether e is true", BlockBoundsTest::counterLast);
        check.sentence("and DONE 1 if VALUE is g or more, else 0", BlockBoundsTest::counterDone);
        check.sentence("DONE becomes 1 if e is true and LAST is not, else 0", BlockBoundsTest::edgeDone);
        check.sentence("then LAST becomes whether e is true", BlockBoundsTest::edgeLast);
        check.sentence("Promise 17: In 34 .. all parts are worked out first, once each", BlockBoundsTest::cellParts);
        check.sentence("Promise 17: In .. 60 to 68 all parts are worked out first, once each",
            BlockBoundsTest::blockParts);
        check.end();
    }

    /** e is input 0, f variable 0. */
    private static CycleController withTimer(int k) {
        CycleController x = check.running(60 + k, 120, 100);
        x.input(0, 1);
        return x;
    }

    private static void timerBegins() {
        for (int k = 0; k < 3; k++) {
            CycleController x = withTimer(k);
            x.poke(0, 1000);
            check.cycle(x, 100);
            check.block("the ticks before it begins are not its own", x, k, 0, 0);
            check.cycle(x, 0);
            check.block("no ticks", x, k, 0, 0);
            check.cycle(x, 1);
            check.block("one", x, k, 1, 0);
            x.input(0, -7);
            check.cycle(x, 100);
            check.block("ON already, by another number", x, k, 101, 0);
            x.input(0, 0);
            check.cycle(x, 5);
            x.input(0, 1);
            check.cycle(x, 5);
            check.block("not ON in between: begins anew", x, k, 0, 0);
            check.cycle(x, 3);
            check.block("three since", x, k, 3, 0);
        }
        CycleController x = check.running(1, 60, N1, Check.n(40), 1, 60, N0, Check.n(40), 60, N1, Check.n(40));
        check.cycle(x, 5);
        check.cycle(x, 5);
        check.block("not ON within the cycle: begins anew", x, 0, 0, 0);
        CycleController y = check.running(35, 120, 60, N1, Check.n(40), 2);
        y.input(0, 1);
        check.cycle(y, 1);
        y.input(0, 0);
        check.cycle(y, 20);
        check.block("what is not carried out does not change it", y, 0, 0, 0);
        y.input(0, 1);
        check.cycle(y, 3);
        check.block("but the time has gone on", y, 0, 23, 0);
    }

    private static void elapsed() {
        for (int k = 0; k < 3; k++) {
            for (int f : new int[] { 1, 2, 49, 50, 51, 100, 1000, MAX }) {
                CycleController x = withTimer(k);
                x.poke(0, f);
                check.cycle(x, 0);
                check.cycle(x, 50);
                check.due("50 of " + f, x.block(k, 0), Math.min(50, f));
            }
        }
    }

    private static void elapsedNotBelowZero() {
        for (int k = 0; k < 3; k++) {
            for (int f : new int[] { 0, -1, -50, MIN + 1, MIN }) {
                CycleController x = withTimer(k);
                x.poke(0, f);
                check.cycle(x, 0);
                check.block("0 of " + f, x, k, 0, 1);
                check.cycle(x, 50);
                check.block("50 of " + f, x, k, 0, 1);
            }
        }
    }

    private static void timerDone() {
        for (int k = 0; k < 3; k++) {
            int[] limits = { MIN, -1, 0, 1, 49, 50, 51, MAX };
            for (int f : limits) {
                CycleController x = withTimer(k);
                x.poke(0, f);
                check.cycle(x, 10);
                check.due("0 of " + f, x.block(k, 1), f <= 0 ? 1 : 0);
                check.cycle(x, 50);
                check.due("50 of " + f, x.block(k, 1), f <= 50 ? 1 : 0);
            }
            CycleController x = withTimer(k);
            x.poke(0, 50);
            check.cycle(x, 0);
            check.cycle(x, 50);
            x.poke(0, 51);
            check.cycle(x, 0);
            check.block("DONE no more, since f has grown", x, k, 50, 0);
        }
    }

    private static void timerOff() {
        for (int k = 0; k < 3; k++) {
            for (int f : new int[] { MIN, -1, 0, 1, 50, MAX }) {
                CycleController x = withTimer(k);
                x.poke(0, f);
                x.input(0, 0);
                check.cycle(x, 50);
                check.block("never ON, limit " + f, x, k, 0, 0);
                x.input(0, 1);
                check.cycle(x, 0);
                check.cycle(x, 50);
                x.input(0, 0);
                check.cycle(x, 50);
                check.block("no more, limit " + f, x, k, 0, 0);
            }
        }
    }

    /** e is input 0, f input 1, g variable 0. */
    private static CycleController withCounter(int k) {
        return check.running(63 + k, 120, 121, 100);
    }

    private static void counted(CycleController x, int k, int e, int f, int value) {
        x.input(0, e);
        x.input(1, f);
        check.cycle(x, 1);
        check.due("counter " + k + " with " + e + ", " + f, x.block(k, 2), value);
    }

    private static void counterSetBack() {
        for (int k = 0; k < 3; k++) {
            for (int f : new int[] { 1, -1, 2, MIN, MAX }) {
                CycleController x = withCounter(k);
                counted(x, k, 1, 0, 1);
                counted(x, k, 0, 0, 1);
                counted(x, k, 1, 0, 2);
                counted(x, k, 0, f, 0);
                counted(x, k, 1, f, 0);
                counted(x, k, 0, 0, 0);
                counted(x, k, 1, 0, 1);
            }
        }
    }

    private static void counterCounts() {
        for (int k = 0; k < 3; k++) {
            CycleController x = withCounter(k);
            counted(x, k, 0, 0, 0);
            counted(x, k, MIN, 0, 1);
            counted(x, k, 1, 0, 1);
            counted(x, k, MAX, 0, 1);
            counted(x, k, 0, 0, 1);
            counted(x, k, 0, 0, 1);
            counted(x, k, 2, 0, 2);
            for (int i = 3; i <= 40; i++) {
                counted(x, k, 0, 0, i - 1);
                counted(x, k, i, 0, i);
            }
        }
    }

    private static void counterLast() {
        for (int k = 0; k < 3; k++) {
            CycleController x = withCounter(k);
            counted(x, k, 1, 1, 0);
            // LAST has become true although VALUE became 0, so that this is no change.
            counted(x, k, 1, 0, 0);
            counted(x, k, 0, 1, 0);
            counted(x, k, 1, 0, 1);
            counted(x, k, 0, 0, 1);
            counted(x, k, 1, 0, 2);
        }
    }

    private static void counterDone() {
        for (int k = 0; k < 3; k++) {
            int[][] rows = { // g, DONE with VALUE 0, DONE with VALUE 2
                { MIN, 1, 1 }, { -1, 1, 1 }, { 0, 1, 1 }, { 1, 0, 1 }, { 2, 0, 1 }, { 3, 0, 0 }, { MAX, 0, 0 } };
            for (int[] row : rows) {
                CycleController x = withCounter(k);
                x.poke(0, row[0]);
                counted(x, k, 0, 0, 0);
                check.due("0 of " + row[0], x.block(k, 3), row[1]);
                counted(x, k, 1, 0, 1);
                counted(x, k, 0, 0, 1);
                counted(x, k, 1, 0, 2);
                check.due("2 of " + row[0], x.block(k, 3), row[2]);
                counted(x, k, 1, 1, 0);
                check.due("set back, 0 of " + row[0], x.block(k, 3), row[1]);
            }
        }
    }

    private static void edges(int k, int... signals) {
        CycleController x = check.running(66 + k, 120);
        int last = 0;
        for (int e : signals) {
            x.input(0, e);
            check.cycle(x, 0);
            check.due("edge " + k + ": " + e + " after " + last, x.block(k, 4), e != 0 && last == 0 ? 1 : 0);
            last = e;
        }
    }

    private static void edgeDone() {
        for (int k = 0; k < 3; k++) {
            edges(k, 1, 0, -1, 0, MIN, 0, MAX, 0, 256, 0, 0);
            edges(k, 0, 1);
            edges(k, 1, 1, 0, -1, -1);
        }
    }

    private static void edgeLast() {
        for (int k = 0; k < 3; k++) {
            edges(k, 1, 1, 2, -1, MIN, MAX, 0, 0, 1, 1);
        }
        CycleController x = check.running(1, 66, N1, 1, 66, N0, 66, N1);
        check.cycle(x, 0);
        check.cycle(x, 0);
        check.due("not true within the cycle: an edge again", x.block(0, 4), 1);
    }

    private static void cellParts() {
        // Both parts ask for the cell that is set.
        CycleController x = check.running(34, 128, Check.n(7), 130, 128, Check.n(7), Check.n(7));
        check.cycle(x, 0);
        check.due("cell 0 becomes 0 + 7", x.cell(0), 7);
        check.replace(x, 34, Check.n(7), Check.n(-1));
        check.cycle(x, 0);
        check.replace(x, 34, 128, Check.n(7), 130, 128, Check.n(7), Check.n(7));
        check.cycle(x, 0);
        check.due("cell -1 & 7 becomes -1 + 7", x.cell(7), 6);
        check.cycle(x, 0);
        check.due("cell 6 becomes 6 + 7", x.cell(6), 13);
        check.due("cell 7 stays", x.cell(7), 6);
    }

    /** Each part asks for what the block itself changes. */
    private static void blockParts() {
        for (int k = 0; k < 3; k++) {
            CycleController x = check.running(60 + k, 139, 143 + k, 146 + k);
            check.cycle(x, 4);
            check.block("f was 0", x, k, 0, 1);
            check.cycle(x, 4);
            check.block("DONE was 1", x, k, 0, 0);
            check.cycle(x, 4);
            check.block("DONE was 0", x, k, 0, 1);
            x = check.running(60 + k, N1, 130, 146 + k, N1);
            blocksInTurn(x, k, new int[][] { { 0, 0 }, { 1, 1 }, { 2, 1 }, { 3, 1 } });
            x = check.running(63 + k, 139, 152 + k, N0, 130, 149 + k, N1);
            blocksInTurn(x, k, new int[][] {
                { 0, 0, 1, 1 }, { 0, 0, 1, 0 }, { 0, 0, 2, 1 }, { 0, 0, 2, 0 }, { 0, 0, 3, 1 } });
            x = check.running(63 + k, 139, 149 + k, N0, N1);
            blocksInTurn(x, k, new int[][] { { 0, 0, 1, 1 }, { 0, 0, 1, 1 }, { 0, 0, 1, 1 } });
            x = check.running(63 + k, N1, 149 + k, N1);
            blocksInTurn(x, k, new int[][] { { 0, 0, 1, 1 }, { 0, 0, 0, 0 }, { 0, 0, 0, 0 } });
            x = check.running(66 + k, 139, 155 + k);
            blocksInTurn(x, k, new int[][] {
                { 0, 0, 0, 0, 1 }, { 0, 0, 0, 0, 0 }, { 0, 0, 0, 0, 1 }, { 0, 0, 0, 0, 0 } });
        }
    }

    private static void blocksInTurn(CycleController x, int k, int[][] turns) {
        for (int i = 0; i < turns.length; i++) {
            check.cycle(x, 4);
            check.block("cycle " + i, x, k, turns[i]);
        }
    }
}
