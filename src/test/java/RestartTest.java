/** Promise 10: restart. */
public final class RestartTest {
    private static final Check check = new Check("RestartTest");
    private static final int N0 = Check.n(0);
    private static final int N1 = Check.n(1);

    public static void main(String[] args) {
        whatIsClearedAndWhatStays();
        blocksBeginAnew();
        timeStays();
        inputsStay();
        programsStay();
        check.end();
    }

    private static void whatIsClearedAndWhatStays() {
        CycleController x = check.running(34, 100, Check.n(5));
        for (int c = 0; c < 8; c++) {
            check.due("poke", x.poke(0, c), 0);
            check.cycle(x, 0);
        }
        check.replace(x, 1, 30, N1, 1, 31, N1, 1, 32, N1, 33, N1);
        check.cycle(x, 0);
        for (int v = 0; v < 16; v++) {
            check.due("poke", x.poke(v, 100 + v), 0);
        }
        x.restart();
        for (int v = 0; v < 16; v++) {
            check.due("variable(" + v + ")", x.variable(v), v < 4 ? 100 + v : 0);
        }
        for (int c = 0; c < 8; c++) {
            check.due("cell(" + c + ")", x.cell(c), 0);
        }
        for (int o = 0; o < 4; o++) {
            check.due("output(" + o + ")", x.output(o), 0);
        }
        check.due("digest()", x.digest(), 100 + 2 * 101 + 3 * 102 + 4 * 103);
    }

    private static void blocksBeginAnew() {
        for (int k = 0; k < 3; k++) {
            CycleController x = check.running(
                1, 60 + k, N1, Check.n(5), 1, 63 + k, N1, N0, N1, 66 + k, 139, 155 + k);
            check.cycle(x, 2);
            check.block("before", x, k, 0, 0, 1, 1, 1);
            check.cycle(x, 8);
            check.block("before", x, k, 5, 1, 1, 1, 0);
            x.restart();
            check.block("cleared", x, k, 0, 0, 0, 0, 0);
            check.cycle(x, 3);
            check.block("begun anew", x, k, 0, 0, 1, 1, 1);
            x.restart();
            check.block("cleared, edge", x, k, 0, 0, 0, 0, 0);
            check.cycle(x, 0);
            check.block("begun anew, edge", x, k, 0, 0, 1, 1, 1);
        }
    }

    /** The time can't be asked for: a timer that was ON must begin anew at the time there is. */
    private static void timeStays() {
        CycleController x = check.running(60, 104, Check.n(40));
        check.due("poke", x.poke(4, 1), 0);
        check.cycle(x, 30);
        check.cycle(x, 10);
        check.block("before", x, 0, 10, 0);
        x.restart();
        check.due("poke", x.poke(4, 1), 0);
        check.cycle(x, 20);
        check.block("begins", x, 0, 0, 0);
        check.cycle(x, 4);
        check.block("goes on", x, 0, 4, 0);
    }

    private static void inputsStay() {
        CycleController x = check.running(1, 10, 120, 1, 11, 121, 1, 12, 122, 13, 123);
        for (int i = 0; i < 4; i++) {
            check.due("input", x.input(i, 6 + i), 0);
        }
        x.restart();
        check.cycle(x, 0);
        check.variables("inputs", x, 6, 7, 8, 9);
    }

    private static void programsStay() {
        CycleController x = new CycleController();
        check.load(x, 0, 10, N1);
        check.load(x, 1, 10, 130, 100, N1);
        x.restart();
        check.due("not running", x.cycle(0), CycleController.NONE);
        check.due("activate(1)", x.activate(1), 0);
        x.restart();
        check.due("still running, and locked", x.back(1), CycleController.NONE);
        check.cycle(x, 0);
        check.cycle(x, 0);
        check.variables("program 1", x, 2);
        check.due("still active", x.activate(0), 1);
        check.due("halt", x.halt(), 1);
        check.due("all tokens", x.erase(0), 2);
        check.due("all tokens", x.erase(1), 4);
    }
}
