import java.util.Map;
import java.util.TreeMap;

/** Promise 2: feed. */
public final class FeedTest {
    private static final Check check = new Check("FeedTest");
    private static final Map<Integer, String> statements = new TreeMap<>();
    private static final Map<Integer, String> expressions = new TreeMap<>();

    public static void main(String[] args) {
        fillTables();
        everyTokenAsStatementAndExpression();
        everyPartOfEveryToken();
        wrongPrograms();
        completeIsFull();
        sixtyAreFull();
        sixtyMayBeComplete();
        lockedWhileRunning();
        programsAreApart();
        check.end();
    }

    /** The parts of each token in their order: s a statement, e an expression. */
    private static void fillTables() {
        put(statements, 1, 1, "ss");
        put(statements, 2, 2, "");
        put(statements, 10, 25, "e");
        put(statements, 30, 33, "e");
        put(statements, 34, 34, "ee");
        put(statements, 35, 35, "ess");
        put(statements, 36, 36, "es");
        put(statements, 37, 37, "se");
        put(statements, 39, 39, "");
        put(statements, 40, 55, "ees");
        put(statements, 56, 56, "esss");
        put(statements, 60, 62, "ee");
        put(statements, 63, 65, "eee");
        put(statements, 66, 68, "e");
        put(expressions, 100, 115, "");
        put(expressions, 120, 127, "");
        put(expressions, 128, 128, "e");
        put(expressions, 130, 138, "ee");
        put(expressions, 139, 139, "e");
        put(expressions, 140, 141, "ee");
        put(expressions, 142, 142, "eee");
        put(expressions, 143, 157, "");
        put(expressions, 210, 290, "");
    }

    private static void put(Map<Integer, String> table, int from, int to, String parts) {
        for (int token = from; token <= to; token++) {
            table.put(token, parts);
        }
    }

    private static void everyTokenAsStatementAndExpression() {
        for (int token = -300; token <= 600; token++) {
            tokenAtBothPlaces(token);
        }
        for (int token : Check.EDGE_NUMBERS) {
            tokenAtBothPlaces(token);
        }
        // These differ from tokens in high bits only.
        for (int bit = 8; bit < 32; bit++) {
            tokenAtBothPlaces(2 + (1 << bit) * 4);
            tokenAtBothPlaces(100 + (1 << bit) * 4);
        }
    }

    private static void tokenAtBothPlaces(int token) {
        CycleController x = new CycleController();
        check.due("statement " + token, x.feed(0, token), statements.containsKey(token) ? 1 : CycleController.BAD);
        x = new CycleController();
        check.load(x, 1, 10);
        check.due("expression " + token, x.feed(1, token), expressions.containsKey(token) ? 2 : CycleController.BAD);
    }

    private static void everyPartOfEveryToken() {
        for (Map.Entry<Integer, String> entry : statements.entrySet()) {
            CycleController x = new CycleController();
            check.load(x, 0, entry.getKey());
            feedParts(x, 0, 1, entry.getValue(), entry.getKey());
        }
        for (Map.Entry<Integer, String> entry : expressions.entrySet()) {
            CycleController x = new CycleController();
            check.load(x, 1, 10, entry.getKey());
            feedParts(x, 1, 2, entry.getValue(), entry.getKey());
        }
    }

    private static void feedParts(CycleController x, int p, int tokens, String parts, int token) {
        int count = tokens;
        for (char part : parts.toCharArray()) {
            String what = "token " + token + ", part " + (count - tokens);
            check.due(what + ": complete", x.complete(p), 0);
            check.due(what + ": wrong kind", x.feed(p, part == 's' ? 250 : 2), CycleController.BAD);
            count++;
            check.due(what + ": right kind", x.feed(p, part == 's' ? 2 : 250), count);
        }
        check.due("token " + token + ": complete", x.complete(p), 1);
        check.due("token " + token + ": one more", x.feed(p, 2), CycleController.FULL);
    }

    private static void wrongPrograms() {
        CycleController x = new CycleController();
        for (int p : Check.EDGE_NUMBERS) {
            if (p != 0 && p != 1) {
                check.due("feed(" + p + ", 2)", x.feed(p, 2), CycleController.BAD);
            }
        }
        check.due("none has come to 0", x.erase(0), 0);
        check.due("none has come to 1", x.erase(1), 0);
    }

    private static void completeIsFull() {
        CycleController x = new CycleController();
        check.load(x, 0, 1, 2, 10, 130, 100, 251);
        check.due("complete before the token", x.feed(0, 999), CycleController.FULL);
        check.due("a good token", x.feed(0, 2), CycleController.FULL);
        check.due("nothing was added", x.erase(0), 6);
    }

    private static void sixtyAreFull() {
        CycleController x = new CycleController();
        for (int i = 1; i <= 60; i++) {
            check.due("feed(0, 1)", x.feed(0, 1), i);
        }
        check.due("token 61", x.feed(0, 2), CycleController.FULL);
        check.due("full before the token", x.feed(0, 999), CycleController.FULL);
        check.due("not complete", x.complete(0), 0);
        check.due("one less", x.back(0), 59);
        check.due("a wrong one", x.feed(0, 250), CycleController.BAD);
        check.due("the last one", x.feed(0, 2), 60);
        check.due("all", x.erase(0), 60);
    }

    private static void sixtyMayBeComplete() {
        CycleController x = new CycleController();
        check.load(x, 1, 10);
        for (int i = 2; i <= 59; i++) {
            check.due("feed(1, 139)", x.feed(1, 139), i);
        }
        check.due("not complete", x.complete(1), 0);
        check.due("feed(1, 250)", x.feed(1, 250), 60);
        check.due("complete", x.complete(1), 1);
        check.due("activate", x.activate(1), 0);
        check.cycle(x, 0);
        check.variables("58 times not", x, 0);
    }

    private static void lockedWhileRunning() {
        CycleController x = check.running(2);
        check.due("running before complete", x.feed(0, 2), CycleController.NONE);
        check.due("bad before running", x.feed(2, 2), CycleController.BAD);
        check.due("the other one", x.feed(1, 10), 1);
        check.due("halt", x.halt(), 1);
        check.due("active, but not running", x.feed(0, 2), CycleController.FULL);
        check.due("back", x.back(0), 0);
        check.due("active, but not running", x.feed(0, 39), 1);
    }

    private static void programsAreApart() {
        CycleController x = new CycleController();
        check.load(x, 0, 1, 10);
        check.load(x, 1, 35, 250);
        check.due("0 wants an expression", x.feed(0, 2), CycleController.BAD);
        check.due("1 wants a statement", x.feed(1, 250), CycleController.BAD);
        check.due("0 gets one", x.feed(0, 250), 3);
        check.due("1 gets one", x.feed(1, 2), 3);
    }
}
