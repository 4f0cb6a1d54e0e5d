/** Promises 6, 7, 8 and 9: activate, halt, input, cycle. */
public final class RunningTest {
    private static final Check check = new Check("RunningTest");

    public static void main(String[] args) {
        activateRefuses();
        activateAnswersTheOneBefore();
        valuesStay();
        haltStops();
        inputsAreSet();
        cycleRefuses();
        timeGoesOn();
        refusedCyclesTakeNoTime();
        check.end();
    }

    private static void activateRefuses() {
        CycleController x = new CycleController();
        for (int p : Check.EDGE_NUMBERS) {
            if (p != 0 && p != 1) {
                check.due("activate(" + p + ")", x.activate(p), CycleController.BAD);
            }
        }
        check.load(x, 0, 10);
        check.due("not complete", x.activate(0), CycleController.NONE);
        check.due("empty", x.activate(1), CycleController.NONE);
        check.due("still not running", x.halt(), 0);
        check.due("feed", x.feed(0, 251), 2);
        check.due("activate", x.activate(0), 0);
        check.load(x, 1, 11);
        check.due("not complete, while 0 runs", x.activate(1), CycleController.NONE);
        check.due("no program, while 0 runs", x.activate(2), CycleController.BAD);
        check.cycle(x, 0);
        check.variables("0 goes on", x, 1, 0);
        check.due("1 was not made active", x.feed(1, 252), 2);
    }

    private static void activateAnswersTheOneBefore() {
        CycleController x = new CycleController();
        check.load(x, 0, 10, 130, 100, 251);
        check.load(x, 1, 11, 130, 101, 252);
        check.due("activate(1)", x.activate(1), 0);
        check.cycle(x, 0);
        check.variables("1", x, 0, 2);
        check.due("activate(1)", x.activate(1), 1);
        check.cycle(x, 0);
        check.variables("1 again", x, 0, 4);
        check.due("activate(0)", x.activate(0), 1);
        check.cycle(x, 0);
        check.variables("0", x, 1, 4);
        check.due("halt", x.halt(), 1);
        check.due("activate(1) after halt", x.activate(1), 0);
        check.due("halt", x.halt(), 1);
        check.due("halt keeps the active one", x.activate(0), 1);
    }

    private static void valuesStay() {
        int n1 = Check.n(1);
        CycleController x = check.running(1, 60, n1, Check.n(9), 1, 63, n1, Check.n(0), Check.n(2),
            1, 66, n1, 1, 34, Check.n(2), n1, 1, 30, n1, 10, 120);
        x.input(0, 77);
        check.cycle(x, 3);
        check.load(x, 1, 1, 60, n1, Check.n(9), 1, 63, n1, Check.n(0), Check.n(2), 1, 66, n1, 11, 120);
        check.due("activate(1)", x.activate(1), 0);
        check.block("stay", x, 0, 0, 0, 1, 0, 1);
        check.due("cell", x.cell(2), 1);
        check.due("output", x.output(0), 1);
        check.cycle(x, 4);
        // ON, BEGIN, LAST and the input are those from before.
        check.block("go on", x, 0, 4, 0, 1, 0, 0);
        check.variables("go on", x, 77, 77);
    }

    private static void haltStops() {
        CycleController x = check.running(10, 130, 100, 251);
        check.due("halt", x.halt(), 1);
        check.due("halt", x.halt(), 0);
        check.due("cycle", x.cycle(1), CycleController.NONE);
        check.variables("nothing was done", x, 0);
        check.due("activate", x.activate(0), 0);
        check.cycle(x, 1);
        check.variables("goes on", x, 1);
        check.due("halt", x.halt(), 1);
        check.due("values stay", x.variable(0), 1);
        check.due("back", x.back(0), 3);
        check.due("cycle without a whole program", x.cycle(1), CycleController.NONE);
        check.due("activate without one", x.activate(0), CycleController.NONE);
    }

    private static void inputsAreSet() {
        CycleController x = check.running(1, 10, 120, 1, 11, 121, 1, 12, 122, 13, 123);
        for (int i : Check.EDGE_NUMBERS) {
            check.due("input(" + i + ", ..)", x.input(i, 5), i >= 0 && i <= 3 ? 0 : CycleController.BAD);
        }
        for (int value : Check.EDGE_NUMBERS) {
            for (int i = 0; i < 4; i++) {
                check.due("input", x.input(i, value - i), 0);
            }
            check.cycle(x, 0);
            check.variables("inputs", x, value, value - 1, value - 2, value - 3);
        }
        check.due("set between cycles", x.input(0, 4), 0);
        check.due("not taken yet", x.variable(0), Integer.MAX_VALUE);
        check.due("the last one counts", x.input(0, 6), 0);
        check.cycle(x, 0);
        check.due("taken", x.variable(0), 6);
        check.cycle(x, 0);
        check.due("stays", x.variable(0), 6);
    }

    private static void cycleRefuses() {
        CycleController x = new CycleController();
        check.due("bad before not running", x.cycle(-1), CycleController.BAD);
        check.due("bad before not running", x.cycle(101), CycleController.BAD);
        check.due("not running", x.cycle(0), CycleController.NONE);
        check.due("not running", x.cycle(100), CycleController.NONE);
        check.load(x, 0, 10, 130, 100, 251);
        check.due("complete, but not running", x.cycle(0), CycleController.NONE);
        check.due("activate", x.activate(0), 0);
        for (int ticks : Check.EDGE_NUMBERS) {
            if (ticks < 0 || ticks > 100) {
                check.due("cycle(" + ticks + ")", x.cycle(ticks), CycleController.BAD);
            }
        }
        check.due("cycle(101)", x.cycle(101), CycleController.BAD);
        check.variables("nothing was done", x, 0);
        check.cycle(x, 0);
        check.cycle(x, 1);
        check.cycle(x, 100);
        check.variables("three cycles", x, 3);
    }

    /** The timer begins at the first cycle's time and shows what has gone by since. */
    private static void timeGoesOn() {
        CycleController x = check.running(60, Check.n(1), 132, Check.n(40), Check.n(40));
        int time = 0;
        check.cycle(x, 50);
        for (int ticks = 0; ticks <= 100; ticks += 10) {
            check.cycle(x, ticks);
            time += ticks;
            check.block("time", x, 0, time, 0);
        }
    }

    private static void refusedCyclesTakeNoTime() {
        CycleController x = check.running(60, Check.n(1), Check.n(40));
        check.cycle(x, 0);
        check.due("cycle(101)", x.cycle(101), CycleController.BAD);
        check.due("cycle(-5)", x.cycle(-5), CycleController.BAD);
        check.due("halt", x.halt(), 1);
        check.due("cycle(7)", x.cycle(7), CycleController.NONE);
        check.due("activate", x.activate(0), 0);
        check.cycle(x, 2);
        check.block("time", x, 0, 2, 0);
    }
}
