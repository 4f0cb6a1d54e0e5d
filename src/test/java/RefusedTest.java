import java.util.ArrayList;
import java.util.List;
import java.util.function.Supplier;
import java.util.function.ToIntFunction;

/** "A refused call (an answer below 0) changes nothing. Questions change nothing." */
public final class RefusedTest {
    private static final Check check = new Check("RefusedTest");
    private static final int BAD = CycleController.BAD;
    private static final int NONE = CycleController.NONE;
    private static final int FULL = CycleController.FULL;
    private static final int[] WRONG = { Integer.MIN_VALUE, -1, 101, Integer.MAX_VALUE };
    private static final int[] NOT_GOOD = { Integer.MIN_VALUE, -1, 2, Integer.MAX_VALUE };

    public static void main(String[] args) {
        check.sentence("A refused call changes nothing: feed", RefusedTest::feed);
        check.sentence("A refused call changes nothing: back", RefusedTest::back);
        check.sentence("A refused call changes nothing: erase", RefusedTest::erase);
        check.sentence("A refused call changes nothing: complete", RefusedTest::complete);
        check.sentence("A refused call changes nothing: activate", RefusedTest::activate);
        check.sentence("A refused call changes nothing: input", RefusedTest::input);
        check.sentence("A refused call changes nothing: cycle", RefusedTest::cycle);
        check.sentence("A refused call changes nothing: poke", RefusedTest::poke);
        check.sentence("Questions change nothing.", RefusedTest::questions);
        check.end();
    }

    /** A call that is to change nothing: beside an object with it stands one that was made alike, without it. */
    private static void refused(String what, Supplier<CycleController> state, int due, ToIntFunction<CycleController> call) {
        Supplier<CycleController> called = () -> {
            CycleController x = state.get();
            check.due(what, call.applyAsInt(x), due);
            return x;
        };
        unchanged(what, called, state);
        CycleController x = called.get();
        check.due(what + ", once more", call.applyAsInt(x), due);
        same(what + ", once more", Probe.questions(x), Probe.questions(state.get()));
    }

    private static void unchanged(String what, Supplier<CycleController> called, Supplier<CycleController> state) {
        same(what + ": questions", Probe.questions(called.get()), Probe.questions(state.get()));
        same(what + ": what the blocks have", Probe.blocks(called.get()), Probe.blocks(state.get()));
        same(what + ": what the programs do", Probe.programs(called.get()), Probe.programs(state.get()));
    }

    private static void same(String what, List<Integer> got, List<Integer> want) {
        check.due(what + " " + got + " for " + want, got.equals(want) ? 1 : 0, 1);
    }

    private static void feedAll(CycleController x, int p, int... tokens) {
        for (int token : tokens) {
            x.feed(p, token);
        }
    }

    /** Variables, inputs, cells, outputs and blocks have something; program 0 runs, and program 1 is not whole. */
    private static CycleController busy() {
        CycleController x = new CycleController();
        feedAll(x, 0, 1, 10, 130, 100, 251, 1, 34, 100, 121, 1, 30, 100,
            1, 61, 122, 255, 1, 64, 122, 250, 251, 67, 135, 251, 100);
        feedAll(x, 1, 35, 120, 12);
        for (int v = 1; v < 16; v++) {
            x.poke(v, 100 + v);
        }
        for (int i = 0; i < 4; i++) {
            x.input(i, 20 + i);
        }
        x.activate(0);
        x.cycle(7);
        x.cycle(9);
        return x;
    }

    private static CycleController halted() {
        CycleController x = busy();
        x.halt();
        return x;
    }

    /** Program 1 is whole and runs, program 0 has sixty tokens and is not whole. */
    private static CycleController crowded() {
        CycleController x = halted();
        feedAll(x, 1, 250, 15, 133, 105, 252);
        x.activate(1);
        x.erase(0);
        for (int i = 0; i < 60; i++) {
            x.feed(0, 1);
        }
        x.cycle(4);
        return x;
    }

    private static void feed() {
        for (int p : NOT_GOOD) {
            refused("feed(" + p + ", 2)", RefusedTest::busy, BAD, x -> x.feed(p, 2));
        }
        for (int token : new int[] { 2, 250, 999 }) {
            refused("running: feed(0, " + token + ")", RefusedTest::busy, NONE, x -> x.feed(0, token));
            refused("complete: feed(0, " + token + ")", RefusedTest::halted, FULL, x -> x.feed(0, token));
            refused("sixty: feed(0, " + token + ")", RefusedTest::crowded, FULL, x -> x.feed(0, token));
            refused("running: feed(1, " + token + ")", RefusedTest::crowded, NONE, x -> x.feed(1, token));
        }
        for (int token : new int[] { Integer.MIN_VALUE, -1, 0, 2, 116, 209, Integer.MAX_VALUE }) {
            refused("no expression: feed(1, " + token + ")", RefusedTest::busy, BAD, x -> x.feed(1, token));
            refused("no expression: feed(1, " + token + ")", RefusedTest::halted, BAD, x -> x.feed(1, token));
        }
        for (int token : new int[] { -1, 0, 3, 38, 100, 250 }) {
            refused("no statement: feed(0, " + token + ")", CycleController::new, BAD, x -> x.feed(0, token));
        }
    }

    private static void back() {
        for (int p : NOT_GOOD) {
            refused("back(" + p + ")", RefusedTest::busy, BAD, x -> x.back(p));
        }
        refused("running: back(0)", RefusedTest::busy, NONE, x -> x.back(0));
        refused("running: back(1)", RefusedTest::crowded, NONE, x -> x.back(1));
        refused("empty: back(0)", CycleController::new, NONE, x -> x.back(0));
        refused("empty: back(1)", CycleController::new, NONE, x -> x.back(1));
    }

    private static void erase() {
        for (int p : NOT_GOOD) {
            refused("erase(" + p + ")", RefusedTest::busy, BAD, x -> x.erase(p));
        }
        refused("running: erase(0)", RefusedTest::busy, NONE, x -> x.erase(0));
        refused("running: erase(1)", RefusedTest::crowded, NONE, x -> x.erase(1));
    }

    private static void complete() {
        for (int p : NOT_GOOD) {
            refused("complete(" + p + ")", RefusedTest::busy, BAD, x -> x.complete(p));
        }
    }

    private static void activate() {
        for (int p : NOT_GOOD) {
            refused("activate(" + p + ")", RefusedTest::busy, BAD, x -> x.activate(p));
            refused("halted: activate(" + p + ")", RefusedTest::halted, BAD, x -> x.activate(p));
        }
        refused("not whole: activate(1)", RefusedTest::busy, NONE, x -> x.activate(1));
        refused("not whole, halted: activate(1)", RefusedTest::halted, NONE, x -> x.activate(1));
        refused("not whole, sixty: activate(0)", RefusedTest::crowded, NONE, x -> x.activate(0));
        refused("empty: activate(0)", CycleController::new, NONE, x -> x.activate(0));
        refused("empty: activate(1)", CycleController::new, NONE, x -> x.activate(1));
    }

    private static void input() {
        for (int i : new int[] { Integer.MIN_VALUE, -1, 4, 8, Integer.MAX_VALUE }) {
            refused("input(" + i + ", 77)", RefusedTest::busy, BAD, x -> x.input(i, 77));
        }
    }

    private static void cycle() {
        for (int ticks : WRONG) {
            refused("cycle(" + ticks + ")", RefusedTest::busy, BAD, x -> x.cycle(ticks));
            refused("halted: cycle(" + ticks + ")", RefusedTest::halted, BAD, x -> x.cycle(ticks));
        }
        for (int ticks : new int[] { 0, 1, 100 }) {
            refused("halted: cycle(" + ticks + ")", RefusedTest::halted, NONE, x -> x.cycle(ticks));
            refused("new: cycle(" + ticks + ")", CycleController::new, NONE, x -> x.cycle(ticks));
        }
    }

    private static void poke() {
        for (int v : new int[] { Integer.MIN_VALUE, -1, 16, 17, Integer.MAX_VALUE }) {
            refused("poke(" + v + ", 77)", RefusedTest::busy, BAD, x -> x.poke(v, 77));
        }
    }

    private static void questions() {
        List<Supplier<CycleController>> states = new ArrayList<>();
        states.add(CycleController::new);
        states.add(RefusedTest::busy);
        states.add(RefusedTest::halted);
        states.add(RefusedTest::crowded);
        List<ToIntFunction<CycleController>> questions = allQuestions();
        check.block("all that is asked for has something", busy(), 1, 5, 1, 1, 1, 1);
        for (Supplier<CycleController> state : states) {
            Supplier<CycleController> called = () -> asked(state.get(), questions);
            unchanged("all questions", called, state);
            for (int i = 0; i < questions.size(); i++) {
                int alone = questions.get(i).applyAsInt(state.get());
                check.due("question " + i + " after all of them", questions.get(i).applyAsInt(called.get()), alone);
            }
        }
    }

    private static CycleController asked(CycleController x, List<ToIntFunction<CycleController>> questions) {
        for (ToIntFunction<CycleController> question : questions) {
            question.applyAsInt(x);
        }
        return x;
    }

    /** With wrong numbers too. */
    private static List<ToIntFunction<CycleController>> allQuestions() {
        List<ToIntFunction<CycleController>> all = new ArrayList<>();
        for (int i = -1; i <= 16; i++) {
            int number = i;
            all.add(x -> x.variable(number));
            if (i <= 8) {
                all.add(x -> x.cell(number));
            }
            if (i <= 4) {
                all.add(x -> x.output(number));
            }
            if (i <= 2) {
                all.add(x -> x.complete(number));
            }
        }
        for (int i = -1; i <= 3; i++) {
            for (int j = -1; j <= 5; j++) {
                int k = i;
                int what = j;
                all.add(x -> x.block(k, what));
            }
        }
        all.add(CycleController::digest);
        return all;
    }
}
