/** Promises 11 to 14 and 16: variable, poke, cell, output, digest. */
public final class QuestionTest {
    private static final Check check = new Check("QuestionTest");

    public static void main(String[] args) {
        variables();
        pokes();
        cells();
        outputs();
        digestOfEachPart();
        digestOfAll();
        digestWraps();
        questionsChangeNothing();
        check.end();
    }

    /** All variables, cells and outputs have something. */
    private static CycleController filled() {
        CycleController x = check.running(34, 100, 130, 100, Check.n(20));
        for (int c = 0; c < 8; c++) {
            check.due("poke", x.poke(0, c), 0);
            check.cycle(x, 0);
        }
        check.replace(x, 1, 30, Check.n(30), 1, 31, Check.n(31), 1, 32, Check.n(32), 33, Check.n(33));
        check.cycle(x, 0);
        for (int v = 0; v < 16; v++) {
            check.due("poke", x.poke(v, 60 + v), 0);
        }
        return x;
    }

    private static void variables() {
        CycleController x = filled();
        for (int v : Check.EDGE_NUMBERS) {
            check.due("variable(" + v + ")", x.variable(v), v >= 0 && v <= 15 ? 60 + v : 0);
        }
    }

    private static void pokes() {
        CycleController x = new CycleController();
        for (int v : Check.EDGE_NUMBERS) {
            check.due("poke(" + v + ", ..)", x.poke(v, 9), v >= 0 && v <= 15 ? 0 : CycleController.BAD);
            check.due("variable(" + v + ")", x.variable(v), v >= 0 && v <= 15 ? 9 : 0);
        }
        CycleController y = new CycleController();
        check.due("poke(16, 9)", y.poke(16, 9), CycleController.BAD);
        check.due("poke(-1, 9)", y.poke(-1, 9), CycleController.BAD);
        check.due("nothing is changed", y.digest(), 0);
        for (int value : Check.EDGE_NUMBERS) {
            check.due("poke(15, ..)", y.poke(15, value), 0);
            check.due("variable(15)", y.variable(15), value);
        }
    }

    private static void cells() {
        CycleController x = filled();
        for (int c : Check.EDGE_NUMBERS) {
            check.due("cell(" + c + ")", x.cell(c), c >= 0 && c <= 7 ? 20 + c : 0);
        }
    }

    private static void outputs() {
        CycleController x = filled();
        for (int o : Check.EDGE_NUMBERS) {
            check.due("output(" + o + ")", x.output(o), o >= 0 && o <= 3 ? 30 + o : 0);
        }
    }

    private static void digestOfEachPart() {
        for (int v = 0; v < 16; v++) {
            CycleController x = new CycleController();
            check.due("poke", x.poke(v, 3), 0);
            check.due("digest of variable " + v, x.digest(), 3 * (v + 1));
        }
        for (int c = 0; c < 8; c++) {
            CycleController x = check.running(34, Check.n(c), Check.n(3));
            check.cycle(x, 0);
            check.due("digest of cell " + c, x.digest(), 3 * (c + 17));
        }
        for (int o = 0; o < 4; o++) {
            CycleController x = check.running(30 + o, Check.n(3));
            check.cycle(x, 0);
            check.due("digest of output " + o, x.digest(), 3 * (o + 25));
        }
        for (int k = 0; k < 3; k++) {
            CycleController x = check.running(60 + k, Check.n(1), Check.n(40));
            check.cycle(x, 0);
            check.cycle(x, 3);
            check.due("digest of ELAPSED", x.digest(), 3 * (5 * k + 29));
            x = check.running(60 + k, Check.n(1), Check.n(0));
            check.cycle(x, 0);
            check.due("digest of the timer's DONE", x.digest(), 5 * k + 30);
            x = check.running(63 + k, Check.n(1), Check.n(0), Check.n(2));
            check.cycle(x, 0);
            check.due("digest of VALUE", x.digest(), 5 * k + 31);
            x = check.running(63 + k, Check.n(0), Check.n(0), Check.n(0));
            check.cycle(x, 0);
            check.due("digest of the counter's DONE", x.digest(), 5 * k + 32);
            x = check.running(66 + k, Check.n(1));
            check.cycle(x, 0);
            check.due("digest of the edge's DONE", x.digest(), 5 * k + 33);
        }
    }

    private static void digestOfAll() {
        CycleController x = filled();
        int sum = 0;
        for (int v = 0; v < 16; v++) {
            sum += (v + 1) * (60 + v);
        }
        for (int c = 0; c < 8; c++) {
            sum += (c + 17) * (20 + c);
        }
        for (int o = 0; o < 4; o++) {
            sum += (o + 25) * (30 + o);
        }
        check.due("digest()", x.digest(), sum);
    }

    private static void digestWraps() {
        CycleController x = new CycleController();
        check.due("poke", x.poke(1, Integer.MAX_VALUE), 0);
        check.due("digest()", x.digest(), -2);
        check.due("poke", x.poke(0, Integer.MIN_VALUE), 0);
        check.due("digest()", x.digest(), Integer.MAX_VALUE - 1);
        // An answer that is BAD, NONE or FULL elsewhere is only a number here.
        check.due("poke", x.poke(0, -1), 0);
        check.due("poke", x.poke(1, 0), 0);
        check.due("digest()", x.digest(), -1);
    }

    private static void questionsChangeNothing() {
        CycleController x = filled();
        int before = x.digest();
        for (int i = -2; i < 18; i++) {
            x.variable(i);
            x.cell(i);
            x.output(i);
            x.block(i, 1);
            x.complete(i);
        }
        check.due("digest()", x.digest(), before);
        check.due("digest()", x.digest(), before);
        check.due("still running", x.halt(), 1);
    }
}
