/** What the tests share: it counts and prints the answers that are not as due. */
class Checks {
    static final int OUT = 0, NEW = 1, CALL = 2, STATIC = 3, TEST = 4, FAIL = 5, ENTER = 6;
    static final int OK = ShrinkDesk.OK, BAD = ShrinkDesk.BAD, FULL = ShrinkDesk.FULL;
    static final int LOW = Integer.MIN_VALUE, HIGH = Integer.MAX_VALUE;

    private static int wrong = 0;
    private static int asked = 0;

    Checks() { }

    static void due(String what, int got, int want) {
        asked++;
        if (got != want) {
            wrong++;
            System.out.println(what + " answered " + got + ", due is " + want);
        }
    }

    static void due(String what, boolean got, boolean want) {
        due(what, got ? 1 : 0, want ? 1 : 0);
    }

    static int wrong() {
        return wrong;
    }

    static void finish(String test) {
        System.out.println(test + ": " + asked + " answers, " + wrong + " not as due");
        if (wrong != 0) {
            System.exit(1);
        }
    }

    static int set(int... members) {
        int sum = 0;
        for (int k : members) {
            sum |= 1 << k;
        }
        return sum;
    }

    /** A method with its instructions, three numbers each. */
    static void filled(ShrinkDesk x, int name, int... code) {
        due("filled method accepted", x.method(name, false) >= 0, true);
        for (int k = 0; k < code.length; k += 3) {
            due("instruction accepted", x.code(code[k], code[k + 1], code[k + 2]), true);
        }
    }

    static void dueOuts(String what, ShrinkDesk x, int... wants) {
        due(what + ": outs", x.state(0), wants.length);
        for (int k = 0; k < wants.length; k++) {
            due(what + ": out " + k, x.out(k), wants[k]);
        }
        due(what + ": behind the last out", x.out(wants.length), 0);
    }

    /** Pairs of method and LINE, the innermost first. */
    static void dueTrace(String what, ShrinkDesk x, int... wants) {
        due(what + ": at work", x.state(2), wants.length / 2);
        for (int k = 0; k < wants.length / 2; k++) {
            due(what + ": trace method " + k, x.trace(k, 0), wants[2 * k]);
            due(what + ": trace line " + k, x.trace(k, 1), wants[2 * k + 1]);
        }
        due(what + ": behind the trace", x.trace(wants.length / 2, 0), BAD);
    }

    /** All that line tells of an instruction: op, class, int, method, LINE, INLINED LINE. */
    static void dueLine(ShrinkDesk x, int c, int n, int k, int... wants) {
        for (int what = 0; what < wants.length; what++) {
            due("line(" + c + "," + n + "," + k + "," + what + ")", x.line(c, n, k, what), wants[what]);
        }
    }
}
