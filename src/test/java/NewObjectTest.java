/** Promise 1: a new object; and the constants. */
public final class NewObjectTest {
    private static final Check check = new Check("NewObjectTest");

    public static void main(String[] args) {
        check.due("BAD", CycleController.BAD, -1);
        check.due("NONE", CycleController.NONE, -2);
        check.due("FULL", CycleController.FULL, -3);
        allNumbersAreZero();
        programsAreEmpty();
        nothingIsTrue();
        objectsAreApart();
        check.end();
    }

    private static void allNumbersAreZero() {
        CycleController x = new CycleController();
        check.zeros(x);
        for (int k = 0; k < 3; k++) {
            check.block("new", x, k, 0, 0, 0, 0, 0);
        }
        check.due("digest()", x.digest(), 0);
        for (int i = 0; i < 4; i++) {
            CycleController y = check.running(10, 120 + i);
            y.poke(0, 9);
            check.cycle(y, 0);
            check.due("input " + i, y.variable(0), 0);
        }
    }

    private static void programsAreEmpty() {
        CycleController x = new CycleController();
        for (int p = 0; p < 2; p++) {
            check.due("complete", x.complete(p), 0);
            check.due("erase", x.erase(p), 0);
            check.due("back", x.back(p), CycleController.NONE);
            check.due("activate", x.activate(p), CycleController.NONE);
        }
        check.due("cycle", x.cycle(0), CycleController.NONE);
        check.due("halt", x.halt(), 0);
        check.load(x, 1, 2);
        check.due("activate(1): 0 was active", x.activate(1), 0);
    }

    private static void nothingIsTrue() {
        for (int k = 0; k < 3; k++) {
            // A timer that was ON with BEGIN 0 would have 5 and 1; one that is not begins now.
            CycleController x = check.running(1, 60 + k, Check.n(1), Check.n(3),
                1, 63 + k, Check.n(1), Check.n(0), Check.n(1), 66 + k, Check.n(1));
            check.cycle(x, 5);
            check.block("first", x, k, 0, 0, 1, 1, 1);
        }
    }

    private static void objectsAreApart() {
        CycleController x = new CycleController();
        CycleController y = new CycleController();
        check.due("poke", x.poke(0, 5), 0);
        check.load(x, 0, 2);
        check.due("the other's variable", y.variable(0), 0);
        check.due("the other's program", y.erase(0), 0);
    }
}
