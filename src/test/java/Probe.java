import java.util.ArrayList;
import java.util.List;

/** Everything that can be told of an object, also what shows only in what it does later. */
final class Probe {
    private static final int N0 = Check.n(0);
    private static final int N1 = Check.n(1);
    private static final int N40 = Check.n(40);

    private final List<Integer> told = new ArrayList<>();
    private final CycleController x;

    private Probe(CycleController x) {
        this.x = x;
    }

    /** By questions alone. */
    static List<Integer> questions(CycleController x) {
        Probe probe = new Probe(x);
        probe.ask();
        return probe.told;
    }

    // The two below ask nothing before they do something, since a question might hide what was changed before it.

    /** The inputs, the ON, BEGIN and LAST of each block, and the time. Changes the object. */
    static List<Integer> blocks(CycleController x) {
        Probe probe = new Probe(x);
        probe.tell(x.halt(), x.erase(0), x.erase(1));
        probe.show();
        return probe.told;
    }

    /** Which program is active, whether it runs, and what both do. Changes the object. */
    static List<Integer> programs(CycleController x) {
        Probe probe = new Probe(x);
        for (int i = 0; i < 3; i++) {
            probe.tell(x.cycle(3), x.digest());
        }
        probe.tell(x.halt());
        for (int p = 0; p < 2; p++) {
            probe.tell(x.complete(p), x.activate(p), x.cycle(1), x.digest(), x.cycle(1), x.digest(), x.halt());
        }
        for (int p = 0; p < 2; p++) {
            probe.takeAway(p);
        }
        probe.tell(x.activate(0), x.activate(1));
        return probe.told;
    }

    private void tell(int... answers) {
        for (int answer : answers) {
            told.add(answer);
        }
    }

    private void ask() {
        for (int v = 0; v < 16; v++) {
            tell(x.variable(v));
        }
        for (int c = 0; c < 8; c++) {
            tell(x.cell(c));
        }
        for (int o = 0; o < 4; o++) {
            tell(x.output(o));
        }
        for (int k = 0; k < 3; k++) {
            for (int what = 0; what < 5; what++) {
                tell(x.block(k, what));
            }
        }
        tell(x.digest(), x.complete(0), x.complete(1));
    }

    private void show() {
        int[] program = new int[0];
        for (int i = 0; i < 4; i++) {
            program = Check.join(program, Check.list(1, 10 + i, 120 + i));
        }
        for (int k = 0; k < 3; k++) {
            program = Check.join(program,
                Check.list(1, 60 + k, N1, N40, 1, 63 + k, N1, N0, N40, 1, 66 + k, N1));
        }
        for (int token : Check.join(program, Check.list(2))) {
            tell(x.feed(0, token));
        }
        tell(x.activate(0), x.cycle(1));
        ask();
    }

    /** Whether a statement or an expression is wanted tells what the tokens before are. */
    private void takeAway(int p) {
        for (int i = 0; i <= 60; i++) {
            int left = x.back(p);
            int answer = left < 0 ? left : x.feed(p, 2);
            tell(left, answer);
            if (answer > 0) {
                tell(x.back(p));
            }
        }
    }
}
