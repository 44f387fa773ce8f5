/**
 * Programs made from numbers: each call is put to the desk and to PlainDesk, and has to be answered
 * alike; and from each root the old and the new program have to do the same.
 */
public final class ModelTest {
    private static final int PROGRAMS = 10000, CALLS = 512;

    private static int most = 0;

    private final int seed;
    private long dice;
    private final ShrinkDesk desk = new ShrinkDesk();
    private final PlainDesk plain = new PlainDesk();
    private int calls = 0;
    /** Many calls of later classes, and little that ends a run before its time. */
    private boolean isLadder;

    private ModelTest(int seed) {
        this.seed = seed;
        this.dice = seed * 0x9E3779B97F4A7C15L + 1;
    }

    public static void main(String[] args) {
        int[] seen = new int[6];
        for (int seed = 1; seed <= PROGRAMS && Checks.wrong() < 20; seed++) {
            ModelTest test = new ModelTest(seed);
            test.tellProgram();
            test.askAtRandom(20);
            if (seed % 4 == 0) {
                test.build();
                test.clear();
                test.tellProgram();
            }
            test.buildAndAsk(seen);
            test.changeAtRandom();
            test.buildAndAsk(seen);
        }
        for (int how = 0; how < 6; how++) {
            System.out.println("from roots: " + seen[how] + " runs end with " + how);
            Checks.due("runs that end with " + how + " are among them", seen[how] > 50, true);
        }
        Checks.due("no object is used for more calls than promised", most <= CALLS, true);
        Checks.finish("ModelTest");
    }

    private int roll(int sides) {
        dice = dice * 6364136223846793005L + 1442695040888963407L;
        return (int) ((dice >>> 33) % sides);
    }

    /** Mostly within 0..most, now and then a bit or far outside. */
    private int loose(int most) {
        int r = roll(40);
        return r == 0 ? -1 : r == 1 ? most + 1 : r == 2 ? Integer.MIN_VALUE
            : r == 3 ? Integer.MAX_VALUE : roll(most + 1);
    }

    private void tellProgram() {
        isLadder = roll(5) == 0;
        int classes = isLadder ? 6 + roll(5) : 1 + roll(10);
        int names = 1 + roll(10);
        boolean[] isInterface = new boolean[classes];
        int[] parent = new int[classes];
        int[][] also = new int[classes][3];
        int[][] methods = new int[classes][];
        boolean[][] isAbstract = new boolean[classes][];
        PlainDesk shape = new PlainDesk();
        for (int c = 0; c < classes; c++) {
            isInterface[c] = roll(10) < 3;
            parent[c] = isInterface[c] || c == 0 || roll(3) == 0 ? -1 : roll(c);
            if (shape.type(isInterface[c], parent[c]) < 0) {
                parent[c] = -1;
                shape.type(isInterface[c], -1);
            }
            for (int k = 0; k < 3; k++) {
                also[c][k] = c == 0 || roll(2) == 0 ? -1 : roll(c);
                shape.also(also[c][k]);
            }
            methods[c] = new int[roll(5)];
            isAbstract[c] = new boolean[methods[c].length];
            for (int k = 0; k < methods[c].length; k++) {
                methods[c][k] = roll(names);
                isAbstract[c][k] = isInterface[c] || roll(8) == 0;
                shape.method(methods[c][k], isAbstract[c][k]);
            }
        }
        for (int c = 0; c < classes; c++) {
            type(isInterface[c], parent[c]);
            for (int i : also[c]) {
                also(i);
            }
            for (int k = 0; k < methods[c].length; k++) {
                if (method(methods[c][k], isAbstract[c][k]) >= 0 && !isAbstract[c][k]) {
                    tellCode(shape);
                }
            }
            changeRarely();
        }
        for (int k = 1 + roll(3); k > 0; k--) {
            if (roll(3) == 0) {
                keep(0, 1023, 1 << roll(names) & roll(1024));
            } else {
                keep(roll(5) < 3 ? 0 : 1, roll(1024) & roll(2048), roll(1024));
            }
        }
    }

    private void tellCode(PlainDesk shape) {
        int kind = isLadder && roll(3) != 0 ? 2 : roll(6);
        int lines = kind < 2 ? roll(4) : kind == 2 ? 6 : roll(7);
        int held = -1;
        for (int k = 0; k < lines; k++) {
            if (kind < 2) {
                code(!isLadder && roll(8) == 0 ? 5 : 0, 0, roll(100));
            } else {
                held = tellInstruction(shape, held, kind == 2);
            }
        }
    }

    /** What is held then; most calls are made on that, so that not most runs end with MISS. */
    private int tellInstruction(PlainDesk shape, int held, boolean isLoop) {
        int op = isLoop ? 3 - (held < 0 ? 0 : roll(2)) : new int[] {0, 0, 1, 1, 2, 2, 2, 2, 3, 3, 4, 5}[roll(12)];
        if (op == 5 && (isLadder || roll(3) != 0) || op == 2 && held < 0 && roll(4) != 0) {
            op = 1;
        }
        for (int attempt = 0; attempt < 60; attempt++) {
            int c = roll(shape.classCount());
            int n = roll(10);
            boolean fits = op == 2 ? shape.canCall(c, n) : op == 3 ? shape.canCallStatic(c, n)
                : op != 1 || !shape.isInterface(c);
            boolean isWise = op != 2 || held < 0 || shape.descends(held, c) || roll(60) == 0;
            boolean isSafe = op != 3 || c >= plain.classCount()
                || roll(isLadder ? 500 : 6) == 0;
            if (fits && isWise && isSafe) {
                code(op, c, n);
                return op == 1 ? c : held;
            }
        }
        code(0, 0, roll(100));
        return held;
    }

    private void changeRarely() {
        if (roll(60) == 0) {
            changeAtRandom();
        }
    }

    private void changeAtRandom() {
        if (calls == CALLS) {
            return;
        }
        switch (roll(6)) {
            case 0 -> type(roll(3) == 0, roll(2) == 0 ? -1 : loose(9));
            case 1 -> also(loose(9));
            case 2 -> method(loose(9), roll(2) == 0);
            case 3 -> code(loose(5), loose(9), loose(9));
            default -> keep(loose(1), roll(4096) - 1024, roll(4096) - 1024);
        }
    }

    private void buildAndAsk(int[] seen) {
        if (calls + 5 > CALLS) {
            return;
        }
        int answer = build();
        place();
        if (answer == ShrinkDesk.OK) {
            askRoots(seen);
        }
        askAtRandom(90);
    }

    /** From what the document says, though it does not say so: the new program does the same. */
    private void askRoots(int[] seen) {
        for (int m = 0; m < plain.methodCount(); m++) {
            if (plain.isRoot(m) && calls + 40 < CALLS) {
                int home = plain.home(m);
                int ending = run(0, home, plain.name(m));
                String before = tellRun(ending);
                int number = renamed(home);
                int name = stays(m, 1);
                int endingBuilt = run(1, number, name);
                String after = tellRun(endingBuilt);
                Checks.due("program " + seed + ", method " + m + ": " + before + " and " + after,
                    after.equals(before), true);
                if (ending >= 0) {
                    seen[ending]++;
                }
            }
        }
    }

    private String tellRun(int ending) {
        StringBuilder told = new StringBuilder("ends " + ending);
        told.append(" after ").append(state(1)).append(" at work ").append(state(2));
        int outs = state(0);
        told.append(" outs ").append(outs).append(" last ").append(out(outs - 1));
        for (int k = 0; k < 4; k++) {
            told.append(" / ").append(trace(k, 0)).append(" ").append(trace(k, 1));
        }
        return told.toString();
    }

    private void askAtRandom(int times) {
        for (int k = 0; k < times && calls < CALLS; k++) {
            switch (roll(12)) {
                case 0 -> renamed(loose(9));
                case 1, 2 -> stays(loose(29) % 15, loose(2));
                case 3, 4, 5, 6 -> line(loose(9), loose(9) % 6, loose(23) % 12, loose(5));
                case 7 -> state(loose(4));
                case 8 -> out(loose(199) % 20);
                case 9 -> trace(loose(7), loose(1));
                default -> run(loose(1), loose(9), loose(9));
            }
        }
    }

    // ---- each call, put to both ----

    private int both(String call, int got, int want) {
        calls++;
        most = calls > most ? calls : most;
        Checks.due("program " + seed + ", call " + calls + ": " + call, got, want);
        return want;
    }

    private void type(boolean isInterface, int parent) {
        both("type(" + isInterface + ", " + parent + ")", desk.type(isInterface, parent),
            plain.type(isInterface, parent));
    }

    private void also(int i) {
        both("also(" + i + ")", desk.also(i) ? 1 : 0, plain.also(i) ? 1 : 0);
    }

    private int method(int name, boolean isAbstract) {
        return both("method(" + name + ", " + isAbstract + ")", desk.method(name, isAbstract),
            plain.method(name, isAbstract));
    }

    private void code(int op, int c, int n) {
        both("code(" + op + ", " + c + ", " + n + ")", desk.code(op, c, n) ? 1 : 0,
            plain.code(op, c, n) ? 1 : 0);
    }

    private void keep(int kind, int classes, int names) {
        both("keep(" + kind + ", " + classes + ", " + names + ")",
            desk.keep(kind, classes, names) ? 1 : 0, plain.keep(kind, classes, names) ? 1 : 0);
    }

    private void clear() {
        both("clear()", desk.clear(), plain.clear());
    }

    private int build() {
        return both("build()", desk.build(), plain.build());
    }

    private int run(int which, int c, int n) {
        return both("run(" + which + ", " + c + ", " + n + ")", desk.run(which, c, n),
            plain.run(which, c, n));
    }

    private void place() {
        both("place()", desk.place(), plain.place());
    }

    private int renamed(int c) {
        return both("renamed(" + c + ")", desk.renamed(c), plain.renamed(c));
    }

    private int stays(int m, int what) {
        return both("stays(" + m + ", " + what + ")", desk.stays(m, what), plain.stays(m, what));
    }

    private void line(int c, int n, int k, int what) {
        both("line(" + c + ", " + n + ", " + k + ", " + what + ")", desk.line(c, n, k, what),
            plain.line(c, n, k, what));
    }

    private int state(int what) {
        return both("state(" + what + ")", desk.state(what), plain.state(what));
    }

    private int out(int k) {
        return both("out(" + k + ")", desk.out(k), plain.out(k));
    }

    private int trace(int k, int what) {
        return both("trace(" + k + ", " + what + ")", desk.trace(k, what), plain.trace(k, what));
    }
}
