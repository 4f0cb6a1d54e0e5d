public final class CycleController {
    public static final int BAD = -1;
    public static final int NONE = -2;
    public static final int FULL = -3;

    private static final int VARIABLES = 16;
    private static final int KEPT_VARIABLES = 4;
    private static final int CELLS = 8;
    private static final int INPUTS = 4;
    private static final int OUTPUTS = 4;
    private static final int BLOCKS = 3;
    private static final int BLOCK_ANSWERS = 5;

    private static final int PROGRAMS = 2;
    private static final int MOST_TOKENS = 60;
    // One place more than the tokens, since the place after a program's last token is looked at too.
    private static final int ROOM = 61;
    private static final int ALL_ROOM = 122;

    private static final int MOST_TICKS = 100;
    private static final int MOST_LOOP_ROUNDS = 20;
    private static final int MOST_CYCLE_ROUNDS = 300;
    // Far above need: each of 300 rounds begins and ends at most 60 statements, 40,000 steps in all.
    private static final int MOST_STEPS = 1000000;

    private static final int NO_KIND = 0;
    private static final int STATEMENT = 1;
    private static final int EXPRESSION = 2;

    private static final int SEQUENCE = 1;
    private static final int DO_NOTHING = 2;
    private static final int SET_VARIABLE = 10;
    private static final int SET_OUTPUT = 30;
    private static final int SET_CELL = 34;
    private static final int IF = 35;
    private static final int WHILE = 36;
    private static final int UNTIL = 37;
    private static final int LEAVE = 39;
    private static final int COUNT = 40;
    private static final int CHOOSE = 56;
    private static final int RUN_TIMER = 60;
    private static final int RUN_COUNTER = 63;
    private static final int RUN_EDGE = 66;

    private static final int VARIABLE = 100;
    private static final int INPUT = 120;
    private static final int OUTPUT = 124;
    private static final int CELL = 128;
    private static final int SUM = 130;
    private static final int DIFFERENCE = 131;
    private static final int PRODUCT = 132;
    private static final int QUOTIENT = 133;
    private static final int REMAINDER = 134;
    private static final int LESS = 135;
    private static final int EQUAL = 136;
    private static final int BOTH = 137;
    private static final int EITHER = 138;
    private static final int NOT = 139;
    private static final int GREATER = 140;
    private static final int LESSER = 141;
    private static final int PICK = 142;
    private static final int TIMER_DONE = 143;
    private static final int TIMER_ELAPSED = 146;
    private static final int COUNTER_VALUE = 149;
    private static final int COUNTER_DONE = 152;
    private static final int EDGE_DONE = 155;
    private static final int LEAST_NUMBER = 210;
    private static final int NUMBER = 250;
    private static final int GREATEST_NUMBER = 290;

    // In place of a loop's count of rounds: the statement has not been begun yet.
    private static final int WAITING = -1;

    private final int[] variables = new int[VARIABLES];
    private final int[] row = new int[CELLS];
    private final int[] inputs = new int[INPUTS];
    private final int[] outputs = new int[OUTPUTS];
    private int time;

    private final boolean[] timerOn = new boolean[BLOCKS];
    private final int[] timerBegin = new int[BLOCKS];
    private final int[] timerElapsed = new int[BLOCKS];
    private final int[] timerDone = new int[BLOCKS];
    private final boolean[] counterLast = new boolean[BLOCKS];
    private final int[] counterValue = new int[BLOCKS];
    private final int[] counterDone = new int[BLOCKS];
    private final boolean[] edgeLast = new boolean[BLOCKS];
    private final int[] edgeDone = new int[BLOCKS];

    private final int[] tokens = new int[ALL_ROOM];
    private final int[] lengths = new int[PROGRAMS];
    private int active;
    private boolean running;

    // Of the active program: the place after the whole part that begins at a place.
    private final int[] ends = new int[ROOM];
    // Of the active program: what the expression that begins at a place came to last.
    private final int[] worths = new int[ROOM];

    // What is still to be done in a cycle, the next thing on top: statements and loops under way.
    private final int[] pendingPlaces = new int[ROOM];
    private final int[] pendingRounds = new int[ROOM];
    private final int[] pendingLimits = new int[ROOM];
    private int pending;
    private int roundsBegun;

    public CycleController() {
    }

    public int feed(int p, int token) {
        if (!isProgram(p)) {
            return BAD;
        }
        if (isLocked(p)) {
            return NONE;
        }
        int needed = neededKind(p);
        if (needed == NO_KIND || lengths[p] >= MOST_TOKENS) {
            return FULL;
        }
        if (kindOf(token) != needed) {
            return BAD;
        }
        tokens[p * ROOM + lengths[p]] = token;
        lengths[p]++;
        return lengths[p];
    }

    public int back(int p) {
        if (!isProgram(p)) {
            return BAD;
        }
        if (isLocked(p) || lengths[p] == 0) {
            return NONE;
        }
        lengths[p]--;
        return lengths[p];
    }

    public int erase(int p) {
        if (!isProgram(p)) {
            return BAD;
        }
        if (isLocked(p)) {
            return NONE;
        }
        int before = lengths[p];
        lengths[p] = 0;
        return before;
    }

    public int complete(int p) {
        if (!isProgram(p)) {
            return BAD;
        }
        return neededKind(p) == NO_KIND ? 1 : 0;
    }

    public int activate(int p) {
        if (!isProgram(p)) {
            return BAD;
        }
        if (neededKind(p) != NO_KIND) {
            return NONE;
        }
        int before = active;
        active = p;
        running = true;
        findEnds();
        return before;
    }

    public int halt() {
        int before = running ? 1 : 0;
        running = false;
        return before;
    }

    public int input(int i, int value) {
        if (i < 0 || i >= INPUTS) {
            return BAD;
        }
        inputs[i] = value;
        return 0;
    }

    public int cycle(int ticks) {
        if (ticks < 0 || ticks > MOST_TICKS) {
            return BAD;
        }
        if (!running) {
            return NONE;
        }
        time += ticks;
        carryOut();
        return 0;
    }

    public void restart() {
        for (int v = KEPT_VARIABLES; v < VARIABLES; v++) {
            variables[v] = 0;
        }
        for (int c = 0; c < CELLS; c++) {
            row[c] = 0;
        }
        for (int o = 0; o < OUTPUTS; o++) {
            outputs[o] = 0;
        }
        for (int k = 0; k < BLOCKS; k++) {
            restartBlocks(k);
        }
    }

    public int variable(int v) {
        return v >= 0 && v < VARIABLES ? variables[v] : 0;
    }

    public int poke(int v, int value) {
        if (v < 0 || v >= VARIABLES) {
            return BAD;
        }
        variables[v] = value;
        return 0;
    }

    public int cell(int c) {
        return c >= 0 && c < CELLS ? row[c] : 0;
    }

    public int output(int o) {
        return o >= 0 && o < OUTPUTS ? outputs[o] : 0;
    }

    public int block(int k, int what) {
        if (k < 0 || k >= BLOCKS) {
            return 0;
        }
        switch (what) {
            case 0:
                return timerElapsed[k];
            case 1:
                return timerDone[k];
            case 2:
                return counterValue[k];
            case 3:
                return counterDone[k];
            case 4:
                return edgeDone[k];
            default:
                return 0;
        }
    }

    public int digest() {
        int sum = 0;
        for (int v = 0; v < VARIABLES; v++) {
            sum += (v + 1) * variables[v];
        }
        for (int c = 0; c < CELLS; c++) {
            sum += (c + 17) * row[c];
        }
        for (int o = 0; o < OUTPUTS; o++) {
            sum += (o + 25) * outputs[o];
        }
        for (int k = 0; k < BLOCKS; k++) {
            for (int what = 0; what < BLOCK_ANSWERS; what++) {
                sum += (5 * k + what + 29) * block(k, what);
            }
        }
        return sum;
    }

    private static boolean isProgram(int p) {
        return p >= 0 && p < PROGRAMS;
    }

    private boolean isLocked(int p) {
        return running && p == active;
    }

    private void restartBlocks(int k) {
        timerOn[k] = false;
        timerBegin[k] = 0;
        timerElapsed[k] = 0;
        timerDone[k] = 0;
        counterLast[k] = false;
        counterValue[k] = 0;
        counterDone[k] = 0;
        edgeLast[k] = false;
        edgeDone[k] = 0;
    }

    // From the last token back, whole parts are gathered by the tokens they belong to; the first
    // token that finds too few of them is the one that the next token must be a part of.
    private int neededKind(int p) {
        int whole = 0;
        for (int i = lengths[p] - 1; i >= 0; i--) {
            int token = tokens[p * ROOM + i];
            int parts = expressionParts(token) + statementParts(token);
            if (whole < parts) {
                return partKind(token, whole);
            }
            whole = whole - parts + 1;
        }
        return whole == 0 ? STATEMENT : NO_KIND;
    }

    private static int partKind(int token, int part) {
        if (token == UNTIL) {
            return part == 0 ? STATEMENT : EXPRESSION;
        }
        return part < expressionParts(token) ? EXPRESSION : STATEMENT;
    }

    private static int kindOf(int token) {
        boolean statement = token == SEQUENCE || token == DO_NOTHING
            || token >= SET_VARIABLE && token < SET_VARIABLE + VARIABLES
            || token >= SET_OUTPUT && token <= UNTIL
            || token >= LEAVE && token <= CHOOSE
            || token >= RUN_TIMER && token < RUN_EDGE + BLOCKS;
        boolean expression = token >= VARIABLE && token < VARIABLE + VARIABLES
            || token >= INPUT && token <= CELL
            || token >= SUM && token < EDGE_DONE + BLOCKS
            || token >= LEAST_NUMBER && token <= GREATEST_NUMBER;
        if (statement) {
            return STATEMENT;
        }
        return expression ? EXPRESSION : NO_KIND;
    }

    private static int expressionParts(int token) {
        if (token >= VARIABLE) {
            return operands(token);
        }
        if (token == SEQUENCE || token == DO_NOTHING || token == LEAVE) {
            return 0;
        }
        if (token >= RUN_COUNTER && token < RUN_EDGE) {
            return 3;
        }
        boolean two = token == SET_CELL
            || token >= COUNT && token < CHOOSE
            || token >= RUN_TIMER && token < RUN_COUNTER;
        return two ? 2 : 1;
    }

    private static int operands(int token) {
        if (token == CELL || token == NOT) {
            return 1;
        }
        if (token == PICK) {
            return 3;
        }
        return token >= SUM && token < PICK ? 2 : 0;
    }

    private static int statementParts(int token) {
        if (token == SEQUENCE || token == IF) {
            return 2;
        }
        if (token == CHOOSE) {
            return 3;
        }
        boolean loop = token == WHILE || token == UNTIL || token >= COUNT && token < CHOOSE;
        return loop ? 1 : 0;
    }

    private int activeToken(int place) {
        return tokens[active * ROOM + place];
    }

    private void findEnds() {
        for (int place = lengths[active] - 1; place >= 0; place--) {
            int token = activeToken(place);
            int parts = expressionParts(token) + statementParts(token);
            int end = place + 1;
            for (int part = 0; part < parts; part++) {
                end = ends[end];
            }
            ends[place] = end;
        }
    }

    private void carryOut() {
        roundsBegun = 0;
        pending = 0;
        push(0, WAITING, 0);
        for (int step = 0; step < MOST_STEPS && pending > 0; step++) {
            int place = pendingPlaces[pending - 1];
            int token = activeToken(place);
            if (pendingRounds[pending - 1] != WAITING) {
                goOnWithLoop(place, token);
            } else {
                pending--;
                if (statementParts(token) == 0) {
                    carryOutSimple(place, token);
                } else {
                    openCompound(place, token);
                }
            }
        }
    }

    private void push(int place, int rounds, int limit) {
        if (pending < ROOM) {
            pendingPlaces[pending] = place;
            pendingRounds[pending] = rounds;
            pendingLimits[pending] = limit;
            pending++;
        }
    }

    private void openCompound(int place, int token) {
        int second = ends[place + 1];
        int third = ends[second];
        if (token == SEQUENCE) {
            push(second, WAITING, 0);
            push(place + 1, WAITING, 0);
        } else if (token == IF) {
            int condition = value(place + 1);
            push(condition != 0 ? second : third, WAITING, 0);
        } else if (token == CHOOSE) {
            int choice = value(place + 1);
            int other = choice == 1 ? third : ends[third];
            push(choice == 0 ? second : other, WAITING, 0);
        } else if (token >= COUNT && token < COUNT + VARIABLES) {
            int start = value(place + 1);
            int limit = value(second);
            variables[token - COUNT] = start;
            push(place, 0, limit);
        } else {
            push(place, 0, 0);
        }
    }

    // A loop that has had its twenty rounds needs no other one, so that is asked before the cycle's
    // own bound; a round that finds the loop's end has begun and counts for the cycle all the same.
    private void goOnWithLoop(int place, int token) {
        int loop = pending - 1;
        boolean over = pendingRounds[loop] > 0 && closeRound(place, token);
        if (over || pendingRounds[loop] >= MOST_LOOP_ROUNDS) {
            pending = loop;
            return;
        }
        if (roundsBegun >= MOST_CYCLE_ROUNDS) {
            pending = 0;
            return;
        }
        roundsBegun++;
        if (isOverBeforeBody(place, token, pendingLimits[loop])) {
            pending = loop;
            return;
        }
        pendingRounds[loop]++;
        int body = loopBody(place, token);
        push(body, WAITING, 0);
    }

    // What is left of a round once its s is done; answers whether this ends the loop.
    private boolean closeRound(int place, int token) {
        if (token >= COUNT && token < COUNT + VARIABLES) {
            variables[token - COUNT]++;
            return false;
        }
        int condition = ends[place + 1];
        return token == UNTIL && value(condition) != 0;
    }

    private boolean isOverBeforeBody(int place, int token, int limit) {
        if (token >= COUNT && token < COUNT + VARIABLES) {
            return variables[token - COUNT] > limit;
        }
        return token == WHILE && value(place + 1) == 0;
    }

    private int loopBody(int place, int token) {
        if (token == UNTIL) {
            return place + 1;
        }
        int second = ends[place + 1];
        return token == WHILE ? second : ends[second];
    }

    private void leaveLoop() {
        boolean left = false;
        for (int i = pending - 1; i >= 0 && !left; i--) {
            left = pendingRounds[i] != WAITING;
            pending = i;
        }
    }

    private void carryOutSimple(int place, int token) {
        int parts = expressionParts(token);
        int second = ends[place + 1];
        int third = ends[second];
        int e = parts > 0 ? value(place + 1) : 0;
        int f = parts > 1 ? value(second) : 0;
        int g = parts > 2 ? value(third) : 0;
        if (token == LEAVE) {
            leaveLoop();
        } else if (token >= SET_VARIABLE && token < SET_VARIABLE + VARIABLES) {
            variables[token - SET_VARIABLE] = e;
        } else if (token >= SET_OUTPUT && token < SET_OUTPUT + OUTPUTS) {
            outputs[token - SET_OUTPUT] = e;
        } else if (token == SET_CELL) {
            row[e & 7] = f;
        } else if (token >= RUN_TIMER && token < RUN_TIMER + BLOCKS) {
            runTimer(token - RUN_TIMER, e != 0, f);
        } else if (token >= RUN_COUNTER && token < RUN_COUNTER + BLOCKS) {
            runCounter(token - RUN_COUNTER, e != 0, f != 0, g);
        } else if (token >= RUN_EDGE && token < RUN_EDGE + BLOCKS) {
            runEdge(token - RUN_EDGE, e != 0);
        }
    }

    private void runTimer(int k, boolean on, int limit) {
        if (on && !timerOn[k]) {
            timerBegin[k] = time;
        }
        timerOn[k] = on;
        int since = time - timerBegin[k];
        int shown = limit < since ? limit : since;
        timerElapsed[k] = on && shown > 0 ? shown : 0;
        timerDone[k] = on && since >= limit ? 1 : 0;
    }

    private void runCounter(int k, boolean signal, boolean reset, int goal) {
        if (reset) {
            counterValue[k] = 0;
        } else if (signal && !counterLast[k]) {
            counterValue[k]++;
        }
        counterLast[k] = signal;
        counterDone[k] = counterValue[k] >= goal ? 1 : 0;
    }

    private void runEdge(int k, boolean signal) {
        edgeDone[k] = signal && !edgeLast[k] ? 1 : 0;
        edgeLast[k] = signal;
    }

    // From the last token back, so that the parts of each token are there before it. Nothing in
    // an expression changes anything, so the order can't be told from the answer.
    private int value(int place) {
        for (int i = ends[place] - 1; i >= place; i--) {
            int token = activeToken(i);
            worths[i] = operands(token) == 0 ? worthAlone(token) : worthOfParts(token, i + 1);
        }
        return worths[place];
    }

    private int worthAlone(int token) {
        if (token >= VARIABLE && token < VARIABLE + VARIABLES) {
            return variables[token - VARIABLE];
        }
        if (token >= INPUT && token < INPUT + INPUTS) {
            return inputs[token - INPUT];
        }
        if (token >= OUTPUT && token < OUTPUT + OUTPUTS) {
            return outputs[token - OUTPUT];
        }
        if (token >= TIMER_DONE && token < TIMER_DONE + BLOCKS) {
            return timerDone[token - TIMER_DONE];
        }
        if (token >= TIMER_ELAPSED && token < TIMER_ELAPSED + BLOCKS) {
            return timerElapsed[token - TIMER_ELAPSED];
        }
        if (token >= COUNTER_VALUE && token < COUNTER_VALUE + BLOCKS) {
            return counterValue[token - COUNTER_VALUE];
        }
        if (token >= COUNTER_DONE && token < COUNTER_DONE + BLOCKS) {
            return counterDone[token - COUNTER_DONE];
        }
        if (token >= EDGE_DONE && token < EDGE_DONE + BLOCKS) {
            return edgeDone[token - EDGE_DONE];
        }
        return token - NUMBER;
    }

    private int worthOfParts(int token, int first) {
        int second = ends[first];
        int e = worths[first];
        int f = worths[second];
        switch (token) {
            case CELL:
                return row[e & 7];
            case SUM:
                return e + f;
            case DIFFERENCE:
                return e - f;
            case PRODUCT:
                return e * f;
            case QUOTIENT:
                return f == 0 ? 0 : e / f;
            case REMAINDER:
                return f == 0 ? 0 : e % f;
            case LESS:
                return e < f ? 1 : 0;
            case EQUAL:
                return e == f ? 1 : 0;
            case BOTH:
                return e != 0 && f != 0 ? 1 : 0;
            case EITHER:
                return e != 0 || f != 0 ? 1 : 0;
            case NOT:
                return e == 0 ? 1 : 0;
            case GREATER:
                return e > f ? e : f;
            case LESSER:
                return e < f ? e : f;
            default:
                return e != 0 ? f : worths[ends[second]];
        }
    }
}
