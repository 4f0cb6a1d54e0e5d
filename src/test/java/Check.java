/** Counts answers that are not the ones that are due, and holds what many tests need. */
final class Check {
    static final int[] EDGE_NUMBERS = {
        Integer.MIN_VALUE, Integer.MIN_VALUE + 1, -1000, -41, -3, -2, -1, 0, 1, 2, 3, 4, 5, 7, 8, 15, 16, 17,
        41, 1000, Integer.MAX_VALUE - 1, Integer.MAX_VALUE };

    private final String name;
    private String sentence = "";
    private int sentences;
    private int made;
    private int wrong;

    Check(String name) {
        this.name = name;
    }

    void due(String what, long got, long want) {
        made++;
        if (got != want) {
            wrong++;
            System.out.println(name + ": " + sentence + what + " answered " + got + ", due is " + want);
        }
    }

    /** The test of one sentence of the document, which is told with each answer that is wrong. */
    void sentence(String words, Runnable test) {
        sentences++;
        sentence = "\"" + words + "\": ";
        int before = made;
        try {
            test.run();
        } catch (RuntimeException thrown) {
            due("a call threw " + thrown + ", which", 1, 0);
        }
        due("whether anything was asked", made > before ? 1 : 0, 1);
        sentence = "";
    }

    void end() {
        String about = sentences == 0 ? "" : sentences + " sentences, ";
        System.out.println(name + ": " + about + made + " answers, " + wrong + " of them wrong");
        if (wrong != 0 || made == 0) {
            System.exit(1);
        }
    }

    /** Feeds a program that has no tokens yet. */
    void load(CycleController x, int p, int... tokens) {
        for (int i = 0; i < tokens.length; i++) {
            due("feed(" + p + ", " + tokens[i] + ") as token " + i, x.feed(p, tokens[i]), i + 1);
        }
    }

    /** A new object whose program 0 is this one, and which runs it. */
    CycleController running(int... tokens) {
        CycleController x = new CycleController();
        load(x, 0, tokens);
        due("activate(0)", x.activate(0), 0);
        return x;
    }

    /** Puts another program in place of program 0, and runs it. */
    void replace(CycleController x, int... tokens) {
        x.halt();
        x.erase(0);
        load(x, 0, tokens);
        due("activate(0)", x.activate(0), 0);
    }

    void cycle(CycleController x, int ticks) {
        due("cycle(" + ticks + ")", x.cycle(ticks), 0);
    }

    /** What variables have from 0 on. */
    void variables(String what, CycleController x, int... wants) {
        for (int v = 0; v < wants.length; v++) {
            due(what + ": variable(" + v + ")", x.variable(v), wants[v]);
        }
    }

    /** ELAPSED and DONE of a timer, VALUE and DONE of a counter, DONE of an edge. */
    void block(String what, CycleController x, int k, int... wants) {
        for (int i = 0; i < wants.length; i++) {
            due(what + ": block(" + k + ", " + i + ")", x.block(k, i), wants[i]);
        }
    }

    /** Each variable, cell and output is 0. */
    void zeros(CycleController x) {
        for (int v = 0; v < 16; v++) {
            due("variable(" + v + ")", x.variable(v), 0);
        }
        for (int c = 0; c < 8; c++) {
            due("cell(" + c + ")", x.cell(c), 0);
        }
        for (int o = 0; o < 4; o++) {
            due("output(" + o + ")", x.output(o), 0);
        }
    }

    static int[] join(int[]... lists) {
        return java.util.Arrays.stream(lists).flatMapToInt(java.util.Arrays::stream).toArray();
    }

    static int[] list(int... tokens) {
        return tokens;
    }

    /** The expression for a number. */
    static int n(int number) {
        return 250 + number;
    }
}
