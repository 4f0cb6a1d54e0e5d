/** Promises 3, 4 and 5: back, erase, complete. */
public final class EditTest {
    private static final Check check = new Check("EditTest");

    public static void main(String[] args) {
        wrongPrograms();
        backTakesTheLast();
        eraseTakesAll();
        lockedWhileRunning();
        completeIsOneWholeStatement();
        questionsChangeNothing();
        check.end();
    }

    private static void wrongPrograms() {
        CycleController x = new CycleController();
        check.load(x, 0, 2);
        check.load(x, 1, 2);
        for (int p : Check.EDGE_NUMBERS) {
            if (p != 0 && p != 1) {
                check.due("back(" + p + ")", x.back(p), CycleController.BAD);
                check.due("erase(" + p + ")", x.erase(p), CycleController.BAD);
                check.due("complete(" + p + ")", x.complete(p), CycleController.BAD);
            }
        }
        check.due("0 is as it was", x.erase(0), 1);
        check.due("1 is as it was", x.erase(1), 1);
    }

    private static void backTakesTheLast() {
        CycleController x = new CycleController();
        check.load(x, 0, 1, 10, 251, 2);
        check.load(x, 1, 2);
        check.due("back", x.back(0), 3);
        check.due("a statement is due", x.feed(0, 251), CycleController.BAD);
        check.due("back", x.back(0), 2);
        check.due("an expression is due", x.feed(0, 2), CycleController.BAD);
        check.due("feed", x.feed(0, 257), 3);
        check.due("feed", x.feed(0, 39), 4);
        check.due("activate", x.activate(0), 0);
        check.cycle(x, 0);
        check.variables("the new number", x, 7);
        check.due("halt", x.halt(), 1);
        for (int left = 3; left >= 0; left--) {
            check.due("back", x.back(0), left);
        }
        check.due("back", x.back(0), CycleController.NONE);
        check.due("back", x.back(0), CycleController.NONE);
        check.due("feed", x.feed(0, 2), 1);
        check.due("the other one is as it was", x.back(1), 0);
    }

    private static void eraseTakesAll() {
        CycleController x = new CycleController();
        check.load(x, 0, 1, 10);
        check.load(x, 1, 2);
        check.due("erase", x.erase(0), 2);
        check.due("erase", x.erase(0), 0);
        check.due("a statement is due", x.feed(0, 250), CycleController.BAD);
        check.due("feed", x.feed(0, 2), 1);
        check.due("complete", x.complete(0), 1);
        check.due("the other one is as it was", x.complete(1), 1);
        check.due("erase", x.erase(1), 1);
        check.due("complete", x.complete(1), 0);
    }

    private static void lockedWhileRunning() {
        CycleController x = check.running(10, 130, 100, 251);
        check.load(x, 1, 2);
        check.due("back", x.back(0), CycleController.NONE);
        check.due("erase", x.erase(0), CycleController.NONE);
        check.cycle(x, 0);
        check.variables("as it was", x, 1);
        check.due("back, other", x.back(1), 0);
        check.due("back, other, none left", x.back(1), CycleController.NONE);
        check.load(x, 1, 2);
        check.due("activate", x.activate(1), 0);
        check.due("back, now active", x.back(1), CycleController.NONE);
        check.due("erase, now active", x.erase(1), CycleController.NONE);
        check.due("back, not active any more", x.back(0), 3);
        check.due("erase, not active any more", x.erase(0), 3);
        check.due("halt", x.halt(), 1);
        check.due("erase, not running", x.erase(1), 1);
    }

    private static void completeIsOneWholeStatement() {
        CycleController x = new CycleController();
        check.due("empty", x.complete(0), 0);
        int[] tokens = { 1, 35, 130, 100, 139, 251, 2, 39, 37, 10, 250, 142, 1 + 250, 250, 250 };
        for (int i = 0; i < tokens.length; i++) {
            check.due("feed", x.feed(0, tokens[i]), i + 1);
            check.due("complete with " + (i + 1), x.complete(0), i == tokens.length - 1 ? 1 : 0);
        }
        check.due("back", x.back(0), tokens.length - 1);
        check.due("not any more", x.complete(0), 0);
        check.due("the other one", x.complete(1), 0);
    }

    private static void questionsChangeNothing() {
        CycleController x = new CycleController();
        check.load(x, 0, 10);
        for (int i = 0; i < 5; i++) {
            check.due("complete", x.complete(0), 0);
        }
        check.due("feed", x.feed(0, 250), 2);
        for (int i = 0; i < 5; i++) {
            check.due("complete", x.complete(0), 1);
        }
        check.due("complete while running", x.activate(0), 0);
        check.due("complete while running", x.complete(0), 1);
        check.due("erase", x.halt(), 1);
        check.due("erase", x.erase(0), 2);
    }
}
