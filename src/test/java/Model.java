import java.util.ArrayList;
import java.util.List;

/** The document written down a second time, by recursion over the tokens, for ModelTest to compare with. */
final class Model {
    /** How a statement ended. */
    private enum End { DONE, LEFT, OVER }

    private static final String[] SHAPES = new String[400];

    static {
        shape(1, 1, "ss");
        shape(2, 2, "");
        shape(10, 25, "e");
        shape(30, 33, "e");
        shape(34, 34, "ee");
        shape(35, 35, "ess");
        shape(36, 36, "es");
        shape(37, 37, "se");
        shape(39, 39, "");
        shape(40, 55, "ees");
        shape(56, 56, "esss");
        shape(60, 62, "ee");
        shape(63, 65, "eee");
        shape(66, 68, "e");
        shape(100, 115, "");
        shape(120, 127, "");
        shape(128, 128, "e");
        shape(130, 141, "ee");
        shape(139, 139, "e");
        shape(142, 142, "eee");
        shape(143, 157, "");
        shape(210, 290, "");
    }

    private final int[] variables = new int[16];
    private final int[] row = new int[8];
    private final int[] inputs = new int[4];
    private final int[] outputs = new int[4];
    private final boolean[] on = new boolean[3];
    private final int[] begin = new int[3];
    private final boolean[] counterLast = new boolean[3];
    private final boolean[] edgeLast = new boolean[3];
    private final int[][] blocks = new int[3][5];
    private final List<List<Integer>> programs = List.of(new ArrayList<>(), new ArrayList<>());
    private int time;
    private int active;
    private boolean running;

    private int at;
    private int rounds;

    private static void shape(int from, int to, String parts) {
        for (int token = from; token <= to; token++) {
            SHAPES[token] = parts;
        }
    }

    /** What the next token must be: s, e, or a blank if the program is complete. */
    char wanted(int p) {
        StringBuilder open = new StringBuilder("s");
        for (int token : programs.get(p)) {
            open.deleteCharAt(0);
            open.insert(0, SHAPES[token]);
        }
        return open.length() == 0 ? ' ' : open.charAt(0);
    }

    private static boolean fits(int token, char kind) {
        boolean known = token >= 0 && token < SHAPES.length && SHAPES[token] != null;
        return known && (token < 100 ? 's' : 'e') == kind;
    }

    int feed(int p, int token) {
        if (p != 0 && p != 1) {
            return -1;
        }
        if (p == active && running) {
            return -2;
        }
        if (wanted(p) == ' ' || programs.get(p).size() == 60) {
            return -3;
        }
        if (!fits(token, wanted(p))) {
            return -1;
        }
        programs.get(p).add(token);
        return programs.get(p).size();
    }

    int back(int p) {
        if (p != 0 && p != 1) {
            return -1;
        }
        if (p == active && running || programs.get(p).isEmpty()) {
            return -2;
        }
        programs.get(p).remove(programs.get(p).size() - 1);
        return programs.get(p).size();
    }

    int erase(int p) {
        if (p != 0 && p != 1) {
            return -1;
        }
        if (p == active && running) {
            return -2;
        }
        int before = programs.get(p).size();
        programs.get(p).clear();
        return before;
    }

    int complete(int p) {
        return p != 0 && p != 1 ? -1 : wanted(p) == ' ' ? 1 : 0;
    }

    int activate(int p) {
        if (complete(p) != 1) {
            return complete(p) == 0 ? -2 : -1;
        }
        int before = active;
        active = p;
        running = true;
        return before;
    }

    int halt() {
        boolean before = running;
        running = false;
        return before ? 1 : 0;
    }

    int input(int i, int value) {
        if (i < 0 || i > 3) {
            return -1;
        }
        inputs[i] = value;
        return 0;
    }

    int cycle(int ticks) {
        if (ticks < 0 || ticks > 100) {
            return -1;
        }
        if (!running) {
            return -2;
        }
        time += ticks;
        rounds = 0;
        statement(0);
        return 0;
    }

    void restart() {
        java.util.Arrays.fill(variables, 4, 16, 0);
        java.util.Arrays.fill(row, 0);
        java.util.Arrays.fill(outputs, 0);
        for (int k = 0; k < 3; k++) {
            on[k] = counterLast[k] = edgeLast[k] = false;
            begin[k] = 0;
            java.util.Arrays.fill(blocks[k], 0);
        }
    }

    int variable(int v) {
        return v >= 0 && v <= 15 ? variables[v] : 0;
    }

    int poke(int v, int value) {
        if (v < 0 || v > 15) {
            return -1;
        }
        variables[v] = value;
        return 0;
    }

    int cell(int c) {
        return c >= 0 && c <= 7 ? row[c] : 0;
    }

    int output(int o) {
        return o >= 0 && o <= 3 ? outputs[o] : 0;
    }

    int block(int k, int what) {
        return k >= 0 && k <= 2 && what >= 0 && what <= 4 ? blocks[k][what] : 0;
    }

    int digest() {
        int sum = 0;
        for (int v = 0; v < 16; v++) {
            sum += (v + 1) * variables[v];
        }
        for (int c = 0; c < 8; c++) {
            sum += (c + 17) * row[c];
        }
        for (int o = 0; o < 4; o++) {
            sum += (o + 25) * outputs[o];
        }
        for (int i = 0; i < 15; i++) {
            sum += (i + 29) * blocks[i / 5][i % 5];
        }
        return sum;
    }

    private int token(int place) {
        return programs.get(active).get(place);
    }

    /** The place behind the part that begins at a place. */
    private int behind(int place) {
        int next = place + 1;
        for (int i = 0; i < SHAPES[token(place)].length(); i++) {
            next = behind(next);
        }
        return next;
    }

    private int part(int place, int which) {
        int next = place + 1;
        for (int i = 0; i < which; i++) {
            next = behind(next);
        }
        return next;
    }

    private int expression(int place) {
        at = place;
        return expressionFromHere();
    }

    private int expressionFromHere() {
        int token = token(at++);
        if (token >= 210) {
            return token - 250;
        }
        if (token >= 143) {
            int what = (token - 143) / 3;
            return blocks[(token - 143) % 3][what > 1 ? what : 1 - what];
        }
        if (token < 116) {
            return variables[token - 100];
        }
        if (token < 128) {
            return token < 124 ? inputs[token - 120] : outputs[token - 124];
        }
        int e = expressionFromHere();
        if (token == 128) {
            return row[Math.floorMod(e, 8)];
        }
        if (token == 139) {
            return e == 0 ? 1 : 0;
        }
        int f = expressionFromHere();
        if (token == 142) {
            int g = expressionFromHere();
            return e != 0 ? f : g;
        }
        return pair(token, e, f);
    }

    private static int pair(int token, long e, long f) {
        return (int) switch (token) {
            case 130 -> e + f;
            case 131 -> e - f;
            case 132 -> e * f;
            case 133 -> f == 0 ? 0 : e / f;
            case 134 -> f == 0 ? 0 : e - e / f * f;
            case 135 -> e < f ? 1 : 0;
            case 136 -> e == f ? 1 : 0;
            case 137 -> e != 0 && f != 0 ? 1 : 0;
            case 138 -> e != 0 || f != 0 ? 1 : 0;
            case 140 -> Math.max(e, f);
            case 141 -> Math.min(e, f);
            default -> throw new IllegalStateException("token " + token);
        };
    }

    private End statement(int place) {
        int token = token(place);
        if (token == 1) {
            End end = statement(part(place, 0));
            return end == End.DONE ? statement(part(place, 1)) : end;
        }
        if (token == 35) {
            return statement(part(place, expression(place + 1) != 0 ? 1 : 2));
        }
        if (token == 56) {
            int e = expression(place + 1);
            return statement(part(place, e == 0 ? 1 : e == 1 ? 2 : 3));
        }
        if (token == 39) {
            return End.LEFT;
        }
        if (token == 36) {
            return whileLoop(place);
        }
        if (token == 37) {
            return untilLoop(place);
        }
        if (token >= 40 && token <= 55) {
            return countLoop(place, token - 40);
        }
        effect(place, token);
        return End.DONE;
    }

    private boolean roundBegins() {
        if (rounds == 300) {
            return false;
        }
        rounds++;
        return true;
    }

    private End whileLoop(int place) {
        for (int round = 0; round < 20; round++) {
            if (!roundBegins()) {
                return End.OVER;
            }
            if (expression(part(place, 0)) == 0) {
                return End.DONE;
            }
            End end = statement(part(place, 1));
            if (end != End.DONE) {
                return end == End.LEFT ? End.DONE : end;
            }
        }
        return End.DONE;
    }

    private End untilLoop(int place) {
        for (int round = 0; round < 20; round++) {
            if (!roundBegins()) {
                return End.OVER;
            }
            End end = statement(part(place, 0));
            if (end != End.DONE) {
                return end == End.LEFT ? End.DONE : end;
            }
            if (expression(part(place, 1)) != 0) {
                return End.DONE;
            }
        }
        return End.DONE;
    }

    private End countLoop(int place, int v) {
        int e = expression(part(place, 0));
        int f = expression(part(place, 1));
        variables[v] = e;
        for (int round = 0; round < 20; round++) {
            if (!roundBegins()) {
                return End.OVER;
            }
            if (variables[v] > f) {
                return End.DONE;
            }
            End end = statement(part(place, 2));
            if (end != End.DONE) {
                return end == End.LEFT ? End.DONE : end;
            }
            variables[v]++;
        }
        return End.DONE;
    }

    private void effect(int place, int token) {
        int[] parts = new int[SHAPES[token].length()];
        for (int i = 0; i < parts.length; i++) {
            parts[i] = expression(part(place, i));
        }
        if (token >= 10 && token <= 25) {
            variables[token - 10] = parts[0];
        } else if (token >= 30 && token <= 33) {
            outputs[token - 30] = parts[0];
        } else if (token == 34) {
            row[Math.floorMod(parts[0], 8)] = parts[1];
        } else if (token >= 60 && token <= 62) {
            timer(token - 60, parts[0] != 0, parts[1]);
        } else if (token >= 63 && token <= 65) {
            counter(token - 63, parts[0] != 0, parts[1] != 0, parts[2]);
        } else if (token >= 66) {
            int k = token - 66;
            blocks[k][4] = parts[0] != 0 && !edgeLast[k] ? 1 : 0;
            edgeLast[k] = parts[0] != 0;
        }
    }

    private void timer(int k, boolean e, int f) {
        if (!e) {
            on[k] = false;
            blocks[k][0] = 0;
            blocks[k][1] = 0;
            return;
        }
        if (!on[k]) {
            on[k] = true;
            begin[k] = time;
        }
        blocks[k][0] = Math.max(0, Math.min(time - begin[k], f));
        blocks[k][1] = time - begin[k] >= f ? 1 : 0;
    }

    private void counter(int k, boolean e, boolean f, int g) {
        if (f) {
            blocks[k][2] = 0;
        } else if (e && !counterLast[k]) {
            blocks[k][2]++;
        }
        counterLast[k] = e;
        blocks[k][3] = blocks[k][2] >= g ? 1 : 0;
    }
}
