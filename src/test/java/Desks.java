/** Desks to begin with. */
final class Desks extends Checks {
    private Desks() { }

    /** Classes without anything in them. */
    static ShrinkDesk ofClasses(int count) {
        ShrinkDesk x = new ShrinkDesk();
        for (int c = 0; c < count; c++) {
            x.type(false, -1);
        }
        return x;
    }

    static ShrinkDesk ofInterfaces(int count) {
        ShrinkDesk x = new ShrinkDesk();
        for (int c = 0; c < count; c++) {
            x.type(true, -1);
        }
        return x;
    }

    /**
     * Interfaces 0 and 1, class 2 with the first, its child 3, and class 4 with the root; the
     * latest method, 6, has a name of 6 and one instruction. Not yet built, not yet run.
     */
    static ShrinkDesk told() {
        ShrinkDesk x = new ShrinkDesk();
        tell(x);
        return x;
    }

    static void tell(ShrinkDesk x) {
        x.type(true, -1);
        x.method(0, true);
        x.type(true, -1);
        x.method(0, true);
        x.type(false, -1);
        x.also(0);
        filled(x, 0, OUT, 0, 11);
        filled(x, 1, TEST, 2, 0, OUT, 0, 5);
        x.type(false, 2);
        filled(x, 0, CALL, 2, 1, OUT, 0, 22);
        x.type(false, -1);
        filled(x, 5, NEW, 3, 0, CALL, 0, 0, STATIC, 4, 6, FAIL, 0, 0);
        filled(x, 6, OUT, 0, 99);
        x.keep(0, 1 << 4, 1 << 5);
    }

    /** The same, built, and run as built: 5, 22, 99 are put out, and it fails. */
    static ShrinkDesk built() {
        ShrinkDesk x = told();
        x.build();
        x.run(1, 4, 5);
        return x;
    }

    /** The same with an instruction that is wrong: 1 of method 6. A build refused it; a run was before. */
    static ShrinkDesk faulty() {
        ShrinkDesk x = told();
        x.run(0, 4, 5);
        x.code(NEW, 0, 0);
        x.build();
        return x;
    }

    /**
     * 10 classes, 0 to 2 interfaces, 30 methods, three in each class with names 0 to 2, of which the
     * latest has 6 instructions; the latest class has two interfaces. 4 rules; built and run.
     */
    static ShrinkDesk full() {
        ShrinkDesk x = new ShrinkDesk();
        for (int c = 0; c < 10; c++) {
            x.type(c < 3, c < 4 ? -1 : 3);
            if (c == 9) {
                x.also(0);
                x.also(1);
            }
            for (int n = 0; n < 3; n++) {
                x.method(n, c < 3);
                x.code(OUT, 0, 10 * c + n);
                x.code(n < 2 ? TEST : OUT, 0, n);
            }
        }
        x.code(NEW, 9, 0);
        x.code(CALL, 3, 0);
        x.code(STATIC, 4, 1);
        x.code(FAIL, 0, 0);
        x.keep(0, 1 << 9, 1 << 2);
        for (int k = 0; k < 3; k++) {
            x.keep(k % 2, 1 << 5 + k, 1 << k);
        }
        x.build();
        x.run(0, 9, 2);
        return x;
    }

    /**
     * A desk that had another program, of which as much as can be is unlike the one told above;
     * it was built and run, and then cleared.
     */
    static ShrinkDesk cleared() {
        ShrinkDesk x = ofClasses(1);
        for (int n = 0; n < 10; n++) {
            filled(x, n, TEST, 1, 0, NEW, 2, 0, STATIC, 0, n == 0 ? 0 : n - 1, CALL, 0, n, TEST, 6, 0);
            x.code(n == 7 ? TEST : STATIC, 0, n);
        }
        x.type(true, -1);
        x.type(false, 0);
        x.type(true, -1);
        x.also(1);
        x.type(false, 2);
        x.also(1);
        x.also(3);
        x.type(false, 4);
        x.type(false, 0);
        x.keep(0, 1, 1 << 9);
        x.keep(0, 1 << 5, 0);
        x.keep(1, 1 << 2 | 1 << 6, -1);
        x.keep(0, 1 << 6, -1);
        due("the program that will go", x.build(), OK);
        due("its run", x.run(1, 0, 9), ShrinkDesk.DEEP);
        due("it goes", x.clear(), 7);
        return x;
    }
}
