import java.util.function.Supplier;

/**
 * Each sentence of promises 1 to 17 that names a boundary case: the value just inside and the one
 * just outside, and that a refused call changes nothing. The first number is the promise's.
 */
public final class PromiseBoundaryTest extends Checks {
    private PromiseBoundaryTest() { }

    public static void main(String[] args) {
        newObjectHasNothing();
        typeParent();
        typeParentThatIsAnInterface();
        typeInterfaceWithParent();
        typeFull();
        alsoWithoutClass();
        alsoNoEarlierInterface();
        alsoHasItAlready();
        alsoHasTwo();
        methodWithoutClass();
        methodNameOutside();
        methodThereIsOne();
        methodFilledInInterface();
        methodFull();
        codeWithoutMethod();
        codeAbstract();
        codeHasSix();
        codeOpOutside();
        codeClassOutside();
        codeNameOutside();
        keepFour();
        keepKindOutside();
        keepBits();
        clearCountsClasses();
        clearMakesRoom();
        clearLeavesNothingBehind();
        clearedIsAsNew();
        acceptedCallsEndWhatWasBuilt();
        buildOfNothing();
        buildNoClass();
        buildNotMade();
        buildNoMethod();
        buildStaticOfAbstract();
        buildFirstByMethodsAndLines();
        buildRefusedBuildsNothing();
        runNoSuchClass();
        runNoSuchClassBesideOne();
        runFindsNothing();
        runFindsAbstract();
        runWhichOutside();
        runSomethingWrong();
        runNothingBuilt();
        runBuiltByNewNumbersAndNames();
        placeOfFirstAndLast();
        placeOfNone();
        renamedOutside();
        staysOutside();
        staysWhat();
        lineAtTheEdges();
        lineByNewNumbersAndNames();
        lineWhat();
        lineIntOfOthers();
        lineOfTheLongest();
        stateOutside();
        stateOfTheLatestRun();
        outAtTheEdges();
        traceAtTheEdges();
        badBeforeFull();
        clearEndsWhatWasBuilt();
        questionsChangeNothing();
        upTo512Calls();
        finish("PromiseBoundaryTest");
    }

    // ---- 1: a new object ----

    private static void newObjectHasNothing() {
        ShrinkDesk x = new ShrinkDesk();
        due("1 no classes", x.clear(), 0);
        due("1 no build", x.place(), -1);
        for (int what = 0; what < 3; what++) {
            due("1 no run, state " + what, x.state(what), 0);
        }
        for (int what = 3; what < 5; what++) {
            due("1 nothing built, state " + what, x.state(what), BAD);
        }
        due("1 no out", x.out(0), 0);
        due("1 no trace", x.trace(0, 0), BAD);
        due("1 no trace line", x.trace(0, 1), BAD);
        due("1 no class to be renamed", x.renamed(0), BAD);
        due("1 no method that stays", x.stays(0, 0), BAD);
        due("1 no line", x.line(0, 0, 0, 0), BAD);
        due("1 nothing to run", x.run(0, 0, 0), BAD);
        due("1 nothing built to run", x.run(1, 0, 0), BAD);
        due("1 no class to have an interface", x.also(0), false);
        due("1 no class for a method", x.method(0, false), BAD);
        due("1 no method for code", x.code(OUT, 0, 0), false);
        for (int k = 0; k < 4; k++) {
            due("1 no rules: room for rule " + k, x.keep(0, 0, 0), true);
        }
    }

    // ---- 2: type ----

    private static void typeParent() {
        for (int count = 0; count < 10; count++) {
            int classes = count;
            Supplier<ShrinkDesk> made = () -> Desks.ofClasses(classes);
            String what = "2 with " + count + " classes, ";
            due(what + "no parent", made.get().type(false, -1), count);
            for (int parent = 0; parent < count; parent++) {
                due(what + "parent " + parent, made.get().type(false, parent), count);
            }
            Unchanged.by(what + "itself as parent", made, x -> x.type(false, classes), BAD);
            Unchanged.by(what + "one that is not yet there", made, x -> x.type(false, classes + 1), BAD);
        }
        for (int parent : new int[] {-2, 5, 9, 10, 31, 32, 33, LOW, HIGH}) {
            Unchanged.by("2 parent " + parent, Desks::built, x -> x.type(false, parent), BAD);
        }
    }

    private static void typeParentThatIsAnInterface() {
        due("2 child of a class beside interfaces", Desks.built().type(false, 2), 5);
        due("2 child of the latest class", Desks.built().type(false, 4), 5);
        Unchanged.by("2 child of an interface", Desks::built, x -> x.type(false, 0), BAD);
        Unchanged.by("2 child of the next interface", Desks::built, x -> x.type(false, 1), BAD);
    }

    private static void typeInterfaceWithParent() {
        due("2 interface without parent", Desks.built().type(true, -1), 5);
        for (int parent : new int[] {-2, 0, 2, 4, 5, LOW, HIGH}) {
            Unchanged.by("2 interface with parent " + parent, Desks::built, x -> x.type(true, parent), BAD);
        }
    }

    private static void typeFull() {
        due("2 the tenth", Desks.ofClasses(9).type(false, -1), 9);
        due("2 the tenth, an interface", Desks.ofClasses(9).type(true, -1), 9);
        due("2 the tenth, a child", Desks.ofClasses(9).type(false, 8), 9);
        Unchanged.by("2 the eleventh", Desks::full, x -> x.type(false, -1), FULL);
        Unchanged.by("2 the eleventh, an interface", Desks::full, x -> x.type(true, -1), FULL);
        Unchanged.by("2 the eleventh, a child", Desks::full, x -> x.type(false, 9), FULL);
        Unchanged.by("2 the eleventh of interfaces", () -> Desks.ofInterfaces(10), x -> x.type(true, -1), FULL);
    }

    // ---- 3: also ----

    private static void alsoWithoutClass() {
        for (int i : new int[] {-1, 0, 1, LOW, HIGH}) {
            Unchanged.byFalse("3 without class, " + i, ShrinkDesk::new, x -> x.also(i));
        }
        Unchanged.byFalse("3 without class, cleared", () -> {
            ShrinkDesk x = Desks.ofInterfaces(3);
            x.clear();
            return x;
        }, x -> x.also(0));
    }

    private static void alsoNoEarlierInterface() {
        due("3 the first class, an interface", Desks.built().also(0), true);
        due("3 a later interface", Desks.built().also(1), true);
        for (int i : new int[] {-1, 2, 3, 4, 5, 10, 32, 33, -31, LOW, HIGH}) {
            Unchanged.byFalse("3 no earlier interface: " + i, Desks::built, x -> x.also(i));
        }
        Supplier<ShrinkDesk> three = () -> Desks.ofInterfaces(3);
        due("3 an interface has the one before it", three.get().also(1), true);
        Unchanged.byFalse("3 an interface has not itself", three, x -> x.also(2));
        Unchanged.byFalse("3 nor a later one", three, x -> x.also(3));
        Unchanged.byFalse("3 the only one has not itself", () -> Desks.ofInterfaces(1), x -> x.also(0));
    }

    /** By this call: what it has by its parent or by another interface is not meant. */
    private static void alsoHasItAlready() {
        Supplier<ShrinkDesk> made = () -> {
            ShrinkDesk x = Desks.ofInterfaces(2);
            x.also(0);
            x.type(false, -1);
            x.also(1);
            x.type(false, 2);
            return x;
        };
        due("3 one that the parent has", made.get().also(1), true);
        due("3 one that the parent's interface has", made.get().also(0), true);
        Supplier<ShrinkDesk> with = () -> {
            ShrinkDesk x = made.get();
            x.also(1);
            return x;
        };
        due("3 one that its own interface has", with.get().also(0), true);
        Unchanged.byFalse("3 the same again", with, x -> x.also(1));
        Unchanged.byFalse("3 the same again, number 0", () -> {
            ShrinkDesk x = Desks.ofInterfaces(2);
            x.also(0);
            return x;
        }, x -> x.also(0));
    }

    private static void alsoHasTwo() {
        for (int c = 0; c < 2; c++) {
            boolean isInterface = c == 1;
            Supplier<ShrinkDesk> made = () -> {
                ShrinkDesk x = Desks.ofInterfaces(4);
                x.type(isInterface, -1);
                x.also(3);
                return x;
            };
            due("3 a second, " + c, made.get().also(0), true);
            Supplier<ShrinkDesk> withTwo = () -> {
                ShrinkDesk x = made.get();
                x.also(0);
                x.method(0, isInterface);
                x.keep(0, 1 << 4, 1);
                x.build();
                return x;
            };
            due("3 it has both, " + c, withTwo.get().state(3), 3);
            Unchanged.byFalse("3 a third, " + c, withTwo, x -> x.also(1));
            Unchanged.byFalse("3 one of the two, " + c, withTwo, x -> x.also(3));
        }
        ShrinkDesk x = Desks.full();
        due("3 full", x.also(2), false);
    }

    // ---- 4: method ----

    private static void methodWithoutClass() {
        Unchanged.by("4 without class", ShrinkDesk::new, x -> x.method(0, false), BAD);
        Unchanged.by("4 without class, abstract", ShrinkDesk::new, x -> x.method(9, true), BAD);
        due("4 with one", Desks.ofClasses(1).method(0, false), 0);
    }

    private static void methodNameOutside() {
        for (int name = 0; name < 10; name++) {
            due("4 name " + name, Desks.ofClasses(1).method(name, false), 0);
            due("4 name " + name + ", abstract", Desks.ofClasses(1).method(name, true), 0);
        }
        for (int name : new int[] {-1, 10, 11, 31, 32, 37, LOW, HIGH}) {
            Unchanged.by("4 name " + name, Desks::built, x -> x.method(name, false), BAD);
            Unchanged.by("4 name " + name + ", abstract", Desks::built, x -> x.method(name, true), BAD);
        }
    }

    private static void methodThereIsOne() {
        due("4 a name between those that are there", Desks.built().method(4, false), 7);
        due("4 a name that another class has", Desks.built().method(0, false), 7);
        for (int name = 5; name < 7; name++) {
            int had = name;
            Unchanged.by("4 there is one, " + name, Desks::built, x -> x.method(had, false), BAD);
            Unchanged.by("4 there is one, abstract now, " + name, Desks::built, x -> x.method(had, true), BAD);
        }
        Supplier<ShrinkDesk> child = () -> {
            ShrinkDesk x = Desks.told();
            x.type(false, 4);
            return x;
        };
        due("4 a name that the parent has", child.get().method(5, false), 7);
        Unchanged.by("4 there is an abstract one", () -> {
            ShrinkDesk x = child.get();
            x.method(5, true);
            return x;
        }, x -> x.method(5, false), BAD);
    }

    private static void methodFilledInInterface() {
        Supplier<ShrinkDesk> made = () -> Desks.ofInterfaces(1);
        due("4 abstract in an interface", made.get().method(0, true), 0);
        Unchanged.by("4 filled in an interface", made, x -> x.method(0, false), BAD);
        due("4 abstract in a class", Desks.ofClasses(1).method(0, true), 0);
        due("4 filled in a class", Desks.ofClasses(1).method(0, false), 0);
        ShrinkDesk x = made.get();
        x.type(false, -1);
        due("4 filled in a class behind an interface", x.method(0, false), 0);
    }

    private static void methodFull() {
        Supplier<ShrinkDesk> made = () -> {
            ShrinkDesk x = new ShrinkDesk();
            for (int m = 0; m < 29; m++) {
                if (m % 10 == 0) {
                    x.type(false, -1);
                }
                due("4 one of 29", x.method(m % 10, m % 2 == 0), m);
            }
            return x;
        };
        due("4 the thirtieth", made.get().method(9, false), 29);
        due("4 the thirtieth, abstract", made.get().method(9, true), 29);
        Supplier<ShrinkDesk> full = () -> {
            ShrinkDesk x = made.get();
            x.method(9, false);
            x.type(false, -1);
            return x;
        };
        Unchanged.by("4 the one behind it", full, x -> x.method(0, false), FULL);
        Unchanged.by("4 the one behind it, abstract", full, x -> x.method(0, true), FULL);
        Unchanged.by("4 behind it in its class", Desks::full, x -> x.method(3, false), FULL);
    }

    // ---- 5: code ----

    private static void codeWithoutMethod() {
        for (int op = OUT; op <= FAIL; op++) {
            int same = op;
            Unchanged.byFalse("5 without class, op " + op, ShrinkDesk::new, x -> x.code(same, 0, 0));
            Unchanged.byFalse("5 without method, op " + op, () -> Desks.ofClasses(1), x -> x.code(same, 0, 0));
            Unchanged.byFalse("5 without method, cleared, op " + op, () -> {
                ShrinkDesk x = Desks.built();
                x.clear();
                x.type(false, -1);
                return x;
            }, x -> x.code(same, 0, 0));
        }
    }

    private static void codeAbstract() {
        Supplier<ShrinkDesk> made = () -> {
            ShrinkDesk x = Desks.told();
            x.method(7, true);
            x.build();
            return x;
        };
        for (int op = OUT; op <= FAIL; op++) {
            int same = op;
            Unchanged.byFalse("5 abstract, op " + op, made, x -> x.code(same, 2, 0));
        }
        ShrinkDesk x = made.get();
        x.method(8, false);
        due("5 the next one is not", x.code(OUT, 0, 0), true);
    }

    private static void codeHasSix() {
        for (int op = OUT; op <= FAIL; op++) {
            int same = op;
            Supplier<ShrinkDesk> made = () -> {
                ShrinkDesk x = Desks.ofClasses(1);
                filled(x, 0, OUT, 0, 1, OUT, 0, 2, OUT, 0, 3, OUT, 0, 4, OUT, 0, 5);
                return x;
            };
            due("5 a sixth, op " + op, made.get().code(op, 0, 0), true);
            Supplier<ShrinkDesk> six = () -> {
                ShrinkDesk x = made.get();
                x.code(OUT, 0, 6);
                x.keep(0, 1, 1);
                x.build();
                return x;
            };
            Unchanged.byFalse("5 a seventh, op " + op, six, x -> x.code(same, 0, 0));
        }
        ShrinkDesk x = Desks.ofClasses(1);
        filled(x, 0, OUT, 0, 1, OUT, 0, 2, OUT, 0, 3, OUT, 0, 4, OUT, 0, 5, OUT, 0, 6);
        x.code(OUT, 0, 7);
        filled(x, 1, OUT, 0, 8);
        due("5 six are run", x.run(0, 0, 0), ShrinkDesk.DONE);
        dueOuts("5 the seventh is not among them", x, 1, 2, 3, 4, 5, 6);
        due("5 the next method is run", x.run(0, 0, 1), ShrinkDesk.DONE);
        dueOuts("5 nor in the next method", x, 8);
    }

    private static void codeOpOutside() {
        for (int op = 0; op < 6; op++) {
            due("5 op " + op, Desks.built().code(op, 2, 0), true);
        }
        for (int op : new int[] {-1, 6, 7, LOW, HIGH}) {
            Unchanged.byFalse("5 op " + op, Desks::built, x -> x.code(op, 2, 0));
        }
    }

    private static void codeClassOutside() {
        for (int op = NEW; op <= TEST; op++) {
            int same = op;
            for (int c = 0; c < 10; c++) {
                due("5 op " + op + " of class " + c, Desks.built().code(op, c, 0), true);
            }
            for (int c : new int[] {-1, 10, 11, LOW, HIGH}) {
                Unchanged.byFalse("5 op " + op + " of class " + c, Desks::built, x -> x.code(same, c, 0));
            }
        }
        for (int c : new int[] {-1, 10, LOW, HIGH}) {
            due("5 OUT has no class, as " + c, Desks.built().code(OUT, c, 0), true);
            due("5 FAIL has no class, as " + c, Desks.built().code(FAIL, c, 0), true);
        }
    }

    private static void codeNameOutside() {
        for (int op = CALL; op <= STATIC; op++) {
            int same = op;
            for (int n = 0; n < 10; n++) {
                due("5 op " + op + " of name " + n, Desks.built().code(op, 0, n), true);
            }
            for (int n : new int[] {-1, 10, 11, LOW, HIGH}) {
                Unchanged.byFalse("5 op " + op + " of name " + n, Desks::built, x -> x.code(same, 0, n));
            }
        }
        for (int n : new int[] {-1, 10, LOW, HIGH}) {
            for (int op : new int[] {OUT, NEW, TEST, FAIL}) {
                due("5 op " + op + " has no name, as " + n, Desks.built().code(op, 2, n), true);
            }
        }
    }

    // ---- 6: keep ----

    private static void keepFour() {
        ShrinkDesk x = Desks.ofClasses(5);
        for (int k = 0; k < 4; k++) {
            due("6 rule " + k, x.keep(0, 1 << k, 0), true);
        }
        x.build();
        due("6 each of the four is heard", x.state(3), 4);
        due("6 a fifth", x.keep(0, 1 << 4, 0), false);
        due("6 it is not heard", x.renamed(4), BAD);
        for (int kind = 0; kind < 2; kind++) {
            int same = kind;
            Unchanged.byFalse("6 a fifth of kind " + kind, Desks::full, y -> y.keep(same, -1, -1));
            Unchanged.byFalse("6 a fifth of kind " + kind + " and nothing", Desks::full, y -> y.keep(same, 0, 0));
        }
    }

    private static void keepKindOutside() {
        due("6 kind 0", Desks.built().keep(0, 1, 1), true);
        due("6 kind 1", Desks.built().keep(1, 1, 1), true);
        for (int kind : new int[] {-1, 2, 3, LOW, HIGH}) {
            Unchanged.byFalse("6 kind " + kind, Desks::built, x -> x.keep(kind, -1, -1));
            Unchanged.byFalse("6 kind " + kind + ", full", Desks::full, x -> x.keep(kind, -1, -1));
        }
    }

    /** Bits 0 and 9 are looked at, 10 and 31 are not, for classes and names alike. */
    private static void keepBits() {
        int[][] sets = {{0, 0}, {1, 1}, {1 << 9, 1 << 9}, {1 << 10, 0}, {1 << 31, 0}, {~1023, 0},
            {1 << 10 | 1, 1}, {-1, 1023}, {LOW | 1 << 9, 1 << 9}, {HIGH, 1023}};
        for (int[] told : sets) {
            int heard = told[1];
            ShrinkDesk x = bothEnds();
            due("6 classes " + told[0], x.keep(0, told[0], 1023), true);
            due("6 build", x.build(), OK);
            due("6 classes " + told[0] + ": class 0", x.renamed(0), (heard & 1) != 0 ? 0 : BAD);
            due("6 classes " + told[0] + ": class 9", x.renamed(9), (heard & 1 << 9) != 0 ? 9 : BAD);
            x = bothEnds();
            due("6 names " + told[0], x.keep(0, 1023, told[0]), true);
            due("6 build", x.build(), OK);
            due("6 names " + told[0] + ": method 0", x.stays(0, 0), (heard & 1) != 0 ? 2 : 0);
            due("6 names " + told[0] + ": method 1", x.stays(1, 0), (heard & 1 << 9) != 0 ? 2 : 0);
        }
    }

    /** Ten classes; the first has name 0, the last name 9. */
    private static ShrinkDesk bothEnds() {
        ShrinkDesk x = Desks.ofClasses(1);
        filled(x, 0);
        for (int c = 1; c < 10; c++) {
            x.type(false, -1);
        }
        filled(x, 9);
        return x;
    }

    // ---- 7: clear ----

    private static void clearCountsClasses() {
        for (int count = 0; count <= 10; count++) {
            due("7 clear of " + count, Desks.ofClasses(count).clear(), count);
            due("7 clear of interfaces, " + count, Desks.ofInterfaces(count).clear(), count);
        }
        ShrinkDesk x = Desks.full();
        x.type(false, -1);
        due("7 refused ones are not counted", x.clear(), 10);
        due("7 cleared twice", x.clear(), 0);
    }

    private static void clearMakesRoom() {
        ShrinkDesk x = Desks.full();
        x.clear();
        for (int m = 0; m < 30; m++) {
            if (m % 3 == 0) {
                due("7 a class again", x.type(false, -1), m / 3);
            }
            due("7 a method again", x.method(m % 3, false), m);
        }
        for (int k = 0; k < 6; k++) {
            due("7 an instruction again", x.code(OUT, 0, k), true);
        }
        for (int k = 0; k < 4; k++) {
            due("7 a rule again", x.keep(0, 0, 0), true);
        }
        due("7 full again: class", x.type(false, -1), FULL);
        due("7 full again: method", x.method(9, false), FULL);
        due("7 full again: instruction", x.code(OUT, 0, 6), false);
        due("7 full again: rule", x.keep(0, 0, 0), false);
        due("7 build", x.build(), OK);
        due("7 the rules that went are not heard", x.state(3), 0);
        due("7 the instructions that went are not there", x.run(0, 9, 0), ShrinkDesk.DONE);
        due("7 not a step of them", x.state(1), 0);
    }

    private static void clearLeavesNothingBehind() {
        ShrinkDesk x = Desks.full();
        x.clear();
        due("7 no class to run", x.run(0, 3, 0), BAD);
        due("7 no latest class: also", x.also(0), false);
        due("7 no latest class: method", x.method(0, true), BAD);
        due("7 no latest method", x.code(OUT, 0, 0), false);
        due("7 a class where an interface was", x.type(false, -1), 0);
        due("7 it can be a parent", x.type(false, 0), 1);
        due("7 it is no interface", x.also(0), false);
        due("7 it has no methods", x.run(0, 0, 0), BAD);
        due("7 nothing is wrong", x.build(), OK);
        due("7 no method stays", x.state(4), 0);
        due("7 no method 0", x.stays(0, 0), BAD);
        x = Desks.faulty();
        x.clear();
        due("7 what was wrong went", x.build(), OK);
        x = Desks.cleared();
        x.type(false, -1);
        filled(x, 7, TEST, 0, 0);
        x.type(false, -1);
        x.type(false, -1);
        filled(x, 8, TEST, 0, 0);
        x.type(false, -1);
        filled(x, 5, STATIC, 0, 7, STATIC, 2, 8);
        x.keep(0, 1 << 3, 1 << 5);
        due("7 build", x.build(), OK);
        due("7 names are as free as at first", x.stays(0, 1), 0);
        due("7 for each family", x.stays(1, 1), 0);
    }

    /** What is told behind a clear is as if told to a new object. */
    private static void clearedIsAsNew() {
        Unchanged.alike("7 told anew", () -> {
            ShrinkDesk x = Desks.cleared();
            Desks.tell(x);
            x.build();
            x.run(1, 4, 5);
            return x;
        }, Desks::built);
        Unchanged.alike("7 told anew with all as roots", () -> {
            ShrinkDesk x = Desks.cleared();
            tellRoots(x);
            return x;
        }, () -> {
            ShrinkDesk x = new ShrinkDesk();
            tellRoots(x);
            return x;
        });
    }

    private static void tellRoots(ShrinkDesk x) {
        Desks.tell(x);
        x.keep(0, -1, -1);
        x.build();
        x.run(0, 4, 6);
    }

    // ---- 2 to 6: what was built is no more, if they are accepted ----

    private static void acceptedCallsEndWhatWasBuilt() {
        String[] names = {"type", "interface", "also", "method", "abstract method", "code", "root rule", "rule"};
        for (int call = 0; call < names.length; call++) {
            ShrinkDesk x = Desks.built();
            String what = "2-6 built no more by " + names[call];
            due(what + ": before", x.state(3), 4);
            boolean isTaken = accepted(x, call);
            due(what + ": accepted", isTaken, true);
            dueNothingBuilt(what, x);
            dueOuts(what + ": the latest run is told", x, 5, 22, 99);
            due(what + ": built again", x.build(), OK);
            due(what + ": then", x.state(3) > 0, true);
        }
    }

    private static boolean accepted(ShrinkDesk x, int call) {
        switch (call) {
            case 0: return x.type(false, -1) >= 0;
            case 1: return x.type(true, -1) >= 0;
            case 2: return x.also(0);
            case 3: return x.method(0, false) >= 0;
            case 4: return x.method(0, true) >= 0;
            case 5: return x.code(OUT, 0, 0);
            case 6: return x.keep(0, 0, 0);
            default: return x.keep(1, 0, 0);
        }
    }

    private static void dueNothingBuilt(String what, ShrinkDesk x) {
        due(what + ": classes", x.state(3), BAD);
        due(what + ": methods", x.state(4), BAD);
        due(what + ": run", x.run(1, 4, 5), BAD);
        for (int c = 0; c < 5; c++) {
            due(what + ": renamed " + c, x.renamed(c), BAD);
        }
        for (int m = 0; m < 7; m++) {
            due(what + ": stays " + m, x.stays(m, 0), BAD);
            due(what + ": name " + m, x.stays(m, 1), BAD);
            due(what + ": length " + m, x.stays(m, 2), BAD);
        }
        for (int k = 0; k < 6; k++) {
            due(what + ": line, " + k, x.line(4, 5, 0, k), BAD);
        }
    }

    // ---- 8: build ----

    private static void buildOfNothing() {
        ShrinkDesk x = new ShrinkDesk();
        due("8 nothing to build", x.build(), OK);
        due("8 no class stays", x.state(3), 0);
        due("8 no method stays", x.state(4), 0);
        x = Desks.ofClasses(10);
        due("8 classes without rules", x.build(), OK);
        due("8 they go", x.state(3), 0);
    }

    /** Instruction 2 of method 1; interface 0, class 1 with names 0 and 1 (abstract), its child. */
    private static void dueBuild(String what, int classes, int op, int c, int n, int want) {
        ShrinkDesk x = Desks.ofInterfaces(1);
        x.type(false, -1);
        x.method(1, true);
        filled(x, 0, OUT, 99, 99, FAIL, 99, 99, op, c, n);
        for (int k = 2; k < classes; k++) {
            x.type(false, 1);
        }
        due(what, x.build(), want);
        due(what + ": place", x.place(), want == OK ? -1 : 8 + 2);
        due(what + ": built", x.state(3), want == OK ? 0 : BAD);
        due(what + ": methods", x.state(4), want == OK ? 0 : BAD);
        due(what + ": run", x.run(0, 1, 0), want == OK ? ShrinkDesk.FAILED : BAD);
        due(what + ": run as built", x.run(1, 1, 0), BAD);
    }

    private static void buildNoClass() {
        for (int classes : new int[] {2, 3, 9, 10}) {
            for (int op = NEW; op <= TEST; op++) {
                String what = "8 op " + op + " with " + classes + " classes, of ";
                dueBuild(what + "the last one", classes, op, classes - 1, 0, OK);
                if (classes < 10) {
                    dueBuild(what + "one that is not there", classes, op, classes, 0, ShrinkDesk.NOCLASS);
                    dueBuild(what + "class 9", classes, op, 9, 0, ShrinkDesk.NOCLASS);
                    dueBuild(what + "it and a name", classes, op, classes, 9, ShrinkDesk.NOCLASS);
                }
            }
        }
        dueBuild("8 OUT has no class", 2, OUT, 9, 9, OK);
        dueBuild("8 FAIL has no class", 2, FAIL, 9, 9, OK);
    }

    private static void buildNotMade() {
        dueBuild("8 NEW of an interface", 2, NEW, 0, 0, ShrinkDesk.NOTMADE);
        dueBuild("8 NEW of a class with an abstract method", 2, NEW, 1, 0, OK);
        dueBuild("8 TEST of an interface", 2, TEST, 0, 0, OK);
    }

    private static void buildNoMethod() {
        dueBuild("8 CALL of what is there", 2, CALL, 1, 0, OK);
        dueBuild("8 CALL of what the parent has", 3, CALL, 2, 0, OK);
        dueBuild("8 CALL of what is not there", 2, CALL, 1, 2, ShrinkDesk.NOMETHOD);
        dueBuild("8 CALL of an interface without it", 2, CALL, 0, 0, ShrinkDesk.NOMETHOD);
        dueBuild("8 STATIC of what is there", 2, STATIC, 1, 0, OK);
        dueBuild("8 STATIC of what the parent has", 3, STATIC, 2, 0, OK);
        dueBuild("8 STATIC of what is not there", 2, STATIC, 1, 2, ShrinkDesk.NOMETHOD);
        dueBuild("8 STATIC of an interface without it", 2, STATIC, 0, 0, ShrinkDesk.NOMETHOD);
        ShrinkDesk x = Desks.ofInterfaces(1);
        x.method(3, true);
        x.type(false, -1);
        x.also(0);
        x.type(false, -1);
        filled(x, 0, CALL, 1, 3);
        due("8 CALL of what an interface has", x.build(), OK);
        x.code(CALL, 2, 3);
        due("8 CALL of what no ancestor has", x.build(), ShrinkDesk.NOMETHOD);
        due("8 its place", x.place(), 8 + 1);
    }

    private static void buildStaticOfAbstract() {
        dueBuild("8 CALL of what is abstract", 2, CALL, 1, 1, OK);
        dueBuild("8 STATIC of what is abstract", 2, STATIC, 1, 1, ShrinkDesk.NOMETHOD);
        dueBuild("8 CALL of what is abstract in the parent", 3, CALL, 2, 1, OK);
        dueBuild("8 STATIC of what is abstract in the parent", 3, STATIC, 2, 1, ShrinkDesk.NOMETHOD);
    }

    private static void buildFirstByMethodsAndLines() {
        ShrinkDesk x = Desks.ofInterfaces(1);
        x.method(0, true);
        x.type(false, -1);
        filled(x, 0, OUT, 0, 0, NEW, 0, 0, NEW, 9, 0);
        filled(x, 1, NEW, 9, 0);
        due("8 the line before", x.build(), ShrinkDesk.NOTMADE);
        due("8 its place", x.place(), 8 + 1);
        x.clear();
        x.type(true, -1);
        x.type(false, -1);
        filled(x, 0, OUT, 0, 0, OUT, 0, 0, OUT, 0, 0, OUT, 0, 0, OUT, 0, 0, STATIC, 0, 0);
        filled(x, 1, NEW, 0, 0);
        due("8 the method before, though with a later line", x.build(), ShrinkDesk.NOMETHOD);
        due("8 its place", x.place(), 5);
        x.clear();
        x.type(true, -1);
        x.type(false, -1);
        filled(x, 9, NEW, 2, 0);
        filled(x, 0, NEW, 0, 0);
        due("8 by the methods' numbers, not their names", x.build(), ShrinkDesk.NOCLASS);
        due("8 its place", x.place(), 0);
    }

    private static void buildRefusedBuildsNothing() {
        ShrinkDesk x = Desks.built();
        x.code(NEW, 0, 0);
        due("8 refused", x.build(), ShrinkDesk.NOTMADE);
        dueNothingBuilt("8 refused", x);
        dueOuts("8 the latest run is told", x, 5, 22, 99);
        due("8 refused again", x.build(), ShrinkDesk.NOTMADE);
        due("8 its place", x.place(), 8 * 6 + 1);
        x = Desks.told();
        due("8 a fault in what can't be reached: told", x.method(9, false), 7);
        x.code(TEST, 5, 0);
        due("8 a fault in what can't be reached", x.build(), ShrinkDesk.NOCLASS);
        x.type(false, -1);
        due("8 the class came", x.build(), OK);
        due("8 built", x.state(3), 4);
    }

    // ---- 9: run ----

    private static void runNoSuchClass() {
        due("9 the last class", Desks.built().run(0, 4, 5), ShrinkDesk.FAILED);
        due("9 an earlier class", Desks.built().run(0, 2, 0), ShrinkDesk.DONE);
        for (int c : new int[] {-1, 5, 9, 10, 31, 36, LOW, HIGH}) {
            Unchanged.by("9 class " + c, Desks::built, x -> x.run(0, c, 5), BAD);
            Unchanged.by("9 class " + c + " as built", Desks::built, x -> x.run(1, c, 5), BAD);
        }
        due("9 the greatest class of all", Desks.full().run(0, 9, 0), ShrinkDesk.DONE);
        due("9 the greatest class of all, as built", Desks.full().run(1, 9, 2), ShrinkDesk.FAILED);
        Unchanged.by("9 no classes", ShrinkDesk::new, x -> x.run(0, 0, 0), BAD);
        Unchanged.by("9 no classes, built", () -> {
            ShrinkDesk x = new ShrinkDesk();
            x.build();
            return x;
        }, x -> x.run(1, 0, 0), BAD);
    }

    /** Class 0 finds what is asked for, so that it would be run if it were taken for the one that is not. */
    private static void runNoSuchClassBesideOne() {
        for (int c : new int[] {-1, 1, 9, 10, LOW, HIGH}) {
            for (int which = 0; which < 2; which++) {
                int same = which;
                Unchanged.by("9 just class 0, asked of " + c, PromiseBoundaryTest::justOne,
                    x -> x.run(same, c, 0), BAD);
            }
            due("13 just class 0, asked of " + c, justOne().line(c, 0, 0, 0), BAD);
        }
        due("9 class 0", justOne().run(0, 0, 0), ShrinkDesk.DONE);
        due("9 class 0 as built", justOne().run(1, 0, 0), ShrinkDesk.DONE);
        due("13 class 0", justOne().line(0, 0, 0, 0), OUT);
        ShrinkDesk x = justOne();
        x.keep(1, 0, 0);
        due("13 class 0, built no more", x.line(0, 0, 0, 0), BAD);
        due("9 class 0, built no more", x.run(1, 0, 0), BAD);
    }

    private static ShrinkDesk justOne() {
        ShrinkDesk x = Desks.ofClasses(1);
        filled(x, 0, OUT, 0, 4, OUT, 0, 5);
        x.keep(0, 1, 1);
        x.build();
        x.run(1, 0, 0);
        return x;
    }

    private static void runFindsNothing() {
        due("9 of its own", Desks.built().run(0, 4, 6), ShrinkDesk.DONE);
        due("9 of its parent", Desks.built().run(0, 3, 1), ShrinkDesk.DONE);
        for (int n : new int[] {-1, 4, 7, 9, 10, 31, 32, 37, LOW, HIGH}) {
            Unchanged.by("9 finds nothing for " + n, Desks::built, x -> x.run(0, 4, n), BAD);
            Unchanged.by("9 finds nothing for " + n + " as built", Desks::built, x -> x.run(1, 4, n), BAD);
        }
        Unchanged.by("9 a method of the child", Desks::built, x -> x.run(0, 0, 1), BAD);
    }

    private static void runFindsAbstract() {
        Unchanged.by("9 abstract in an interface", Desks::built, x -> x.run(0, 0, 0), BAD);
        Unchanged.by("9 abstract as built", Desks::built, x -> x.run(1, 0, 0), BAD);
        Supplier<ShrinkDesk> made = () -> {
            ShrinkDesk x = Desks.built();
            x.method(8, true);
            x.type(false, 4);
            x.type(false, -1);
            x.also(1);
            return x;
        };
        Unchanged.by("9 abstract in a class", made, x -> x.run(0, 4, 8), BAD);
        Unchanged.by("9 abstract in the parent", made, x -> x.run(0, 5, 8), BAD);
        Unchanged.by("9 abstract in an interface of it", made, x -> x.run(0, 6, 0), BAD);
        due("9 not abstract in the parent", made.get().run(0, 5, 6), ShrinkDesk.DONE);
        ShrinkDesk x = bareByBuild();
        due("9 it is not abstract before", x.run(0, 0, 0), ShrinkDesk.DONE);
        due("9 it stays as abstract", x.stays(0, 0), 1);
        Unchanged.by("9 abstract by the build", PromiseBoundaryTest::bareByBuild, y -> y.run(1, 0, 0), BAD);
    }

    /** Class 0's method is named by a CALL, but no class is made. */
    private static ShrinkDesk bareByBuild() {
        ShrinkDesk x = Desks.ofClasses(1);
        filled(x, 0, OUT, 0, 1);
        x.type(false, -1);
        filled(x, 5, CALL, 0, 0);
        x.keep(0, 1 << 1, 1 << 5);
        x.build();
        return x;
    }

    private static void runWhichOutside() {
        due("9 which 0", Desks.built().run(0, 4, 5), ShrinkDesk.FAILED);
        due("9 which 1", Desks.built().run(1, 4, 5), ShrinkDesk.FAILED);
        for (int which : new int[] {-1, 2, 3, LOW, HIGH}) {
            Unchanged.by("9 which " + which, Desks::built, x -> x.run(which, 4, 5), BAD);
            Unchanged.by("9 which " + which + ", not built", Desks::told, x -> x.run(which, 4, 5), BAD);
        }
    }

    private static void runSomethingWrong() {
        ShrinkDesk x = Desks.faulty();
        due("9 it was run before", x.state(1), 9);
        for (int n : new int[] {5, 6}) {
            Unchanged.by("9 something is wrong, " + n, Desks::faulty, y -> y.run(0, 4, n), BAD);
            Unchanged.by("9 something is wrong, as built, " + n, Desks::faulty, y -> y.run(1, 4, n), BAD);
        }
        Unchanged.by("9 something is wrong in another class", Desks::faulty, y -> y.run(0, 2, 0), BAD);
        Unchanged.by("9 something is wrong, no build was asked", () -> {
            ShrinkDesk y = Desks.built();
            y.code(TEST, 5, 0);
            return y;
        }, y -> y.run(0, 4, 5), BAD);
        x = Desks.built();
        x.code(TEST, 5, 0);
        due("9 wrong", x.run(0, 4, 5), BAD);
        x.type(false, -1);
        due("9 right by a class that came", x.run(0, 4, 5), ShrinkDesk.FAILED);
    }

    private static void runNothingBuilt() {
        due("9 nothing built is needed for 0", Desks.told().run(0, 4, 5), ShrinkDesk.FAILED);
        Unchanged.by("9 nothing built", Desks::told, x -> x.run(1, 4, 5), BAD);
        Unchanged.by("9 nothing built, refused", Desks::faulty, x -> x.run(1, 4, 5), BAD);
        Unchanged.by("9 built no more", () -> {
            ShrinkDesk x = Desks.built();
            x.keep(1, 0, 0);
            return x;
        }, x -> x.run(1, 4, 5), BAD);
    }

    /** Class 1 becomes 0, and its name 7 becomes 0. */
    private static ShrinkDesk newNames() {
        ShrinkDesk x = Desks.ofClasses(2);
        filled(x, 7, TEST, 1, 0, FAIL, 0, 0);
        x.type(false, -1);
        filled(x, 5, NEW, 1, 0, CALL, 1, 7);
        x.keep(0, 1 << 2, 1 << 5);
        due("9 build", x.build(), OK);
        return x;
    }

    private static void runBuiltByNewNumbersAndNames() {
        ShrinkDesk x = newNames();
        due("9 the new number", x.renamed(1), 0);
        due("9 the new name", x.stays(0, 1), 0);
        due("9 by new ones", x.run(1, 0, 0), ShrinkDesk.DONE);
        due("9 by the old number", x.run(1, 1, 0), BAD);
        due("9 by the old name", x.run(1, 0, 7), BAD);
        due("9 by old ones as before", x.run(0, 1, 7), ShrinkDesk.DONE);
        due("9 by new ones as before", x.run(0, 0, 0), BAD);
        due("9 it is told in old terms", x.run(1, 2, 5), ShrinkDesk.FAILED);
        dueTrace("9 it is told in old terms", x, 0, 1, 1, 1);
    }

    // ---- 10: place ----

    private static void placeOfFirstAndLast() {
        ShrinkDesk x = Desks.ofClasses(1);
        filled(x, 0, NEW, 9, 0);
        due("10 refused", x.build(), ShrinkDesk.NOCLASS);
        due("10 method 0, LINE 0", x.place(), 0);
        x = new ShrinkDesk();
        for (int m = 0; m < 29; m++) {
            if (m % 10 == 0) {
                x.type(false, -1);
            }
            filled(x, m % 10);
        }
        filled(x, 9, OUT, 0, 0, OUT, 0, 0, OUT, 0, 0, OUT, 0, 0, OUT, 0, 0, NEW, 9, 0);
        due("10 refused", x.build(), ShrinkDesk.NOCLASS);
        due("10 method 29, LINE 5", x.place(), 8 * 29 + 5);
    }

    private static void placeOfNone() {
        due("10 no build", new ShrinkDesk().place(), -1);
        due("10 told, but no build", Desks.told().place(), -1);
        due("10 it was OK", Desks.built().place(), -1);
        ShrinkDesk x = Desks.faulty();
        due("10 not liked", x.place(), 8 * 6 + 1);
        x.run(0, 4, 5);
        x.keep(0, 0, 0);
        due("10 the latest build, whatever came then", x.place(), 8 * 6 + 1);
        x.clear();
        due("10 the latest build, though all went", x.place(), 8 * 6 + 1);
        due("10 build", x.build(), OK);
        due("10 OK then", x.place(), -1);
    }

    // ---- 11: renamed ----

    private static void renamedOutside() {
        int[] wants = {0, BAD, 1, 2, 4};
        ShrinkDesk x = Desks.built();
        for (int c = 0; c < 5; c++) {
            due("11 class " + c, x.renamed(c), wants[c]);
        }
        for (int c : new int[] {-1, -2, 5, 9, 10, 31, 32, LOW, HIGH}) {
            due("11 no class " + c, x.renamed(c), BAD);
        }
        due("11 the greatest class", Desks.full().renamed(9), 9);
        due("11 behind the greatest", Desks.full().renamed(10), BAD);
        for (int c = 0; c < 5; c++) {
            due("11 nothing built, " + c, Desks.told().renamed(c), BAD);
            due("11 refused, " + c, Desks.faulty().renamed(c), BAD);
        }
    }

    // ---- 12: stays ----

    private static void staysOutside() {
        ShrinkDesk x = Desks.built();
        due("12 the first", x.stays(0, 0), 1);
        due("12 the last, which went", x.stays(6, 0), 0);
        for (int m : new int[] {-1, 7, 29, 30, 31, 32, LOW, HIGH}) {
            for (int what = 0; what < 3; what++) {
                due("12 no method " + m + ", " + what, x.stays(m, what), BAD);
            }
        }
        due("12 the greatest", Desks.full().stays(29, 0), 2);
        due("12 behind the greatest", Desks.full().stays(30, 0), BAD);
        for (int what = 0; what < 3; what++) {
            due("12 nothing built, " + what, Desks.told().stays(5, what), BAD);
            due("12 refused, " + what, Desks.faulty().stays(5, what), BAD);
        }
    }

    private static void staysWhat() {
        ShrinkDesk x = Desks.built();
        // Abstract, gone, and with instructions: 1 and 2 are BAD only of what went.
        int[][] wants = {{0, 1, 0, 0}, {1, 0, BAD, BAD}, {4, 2, 0, 2}, {5, 2, 5, 5}, {6, 0, BAD, BAD}};
        for (int[] want : wants) {
            for (int what = 0; what < 3; what++) {
                due("12 method " + want[0] + ", " + what, x.stays(want[0], what), want[1 + what]);
            }
            for (int what : new int[] {-1, 3, 4, LOW, HIGH}) {
                due("12 method " + want[0] + ", " + what, x.stays(want[0], what), BAD);
            }
        }
        x = bareByBuild();
        due("12 it stays as abstract", x.stays(0, 0), 1);
        due("12 so it has no instructions then", x.stays(0, 2), 0);
    }

    // ---- 13: line ----

    private static void lineAtTheEdges() {
        ShrinkDesk x = Desks.built();
        due("13 first line", x.line(4, 5, 0, 0), NEW);
        due("13 last line", x.line(4, 5, 4, 0), FAIL);
        for (int k : new int[] {-1, 5, 6, 24, LOW, HIGH}) {
            due("13 no line " + k, x.line(4, 5, k, 0), BAD);
        }
        for (int c : new int[] {-1, 3, 5, 9, 10, LOW, HIGH}) {
            due("13 no class " + c, x.line(c, 5, 0, 0), BAD);
        }
        for (int n : new int[] {-1, 0, 4, 6, 9, 10, LOW, HIGH}) {
            due("13 no name " + n, x.line(4, n, 0, 0), BAD);
        }
        due("13 an abstract one has no line 0", x.line(0, 0, 0, 0), BAD);
        due("13 what went from the parent is not there", x.line(1, 0, 0, 0), BAD);
        due("13 what the child has instead", x.line(2, 0, 0, 0), CALL);
        due("13 what the parent has", x.line(1, 1, 0, 0), TEST);
        due("13 is not in the child", x.line(2, 1, 0, 0), BAD);
        for (int what = 0; what < 6; what++) {
            due("13 nothing built, " + what, Desks.told().line(4, 5, 0, what), BAD);
            due("13 refused, " + what, Desks.faulty().line(4, 5, 0, what), BAD);
        }
    }

    private static void lineByNewNumbersAndNames() {
        ShrinkDesk x = newNames();
        dueLine(x, 0, 0, 0, TEST, 0, 0, 0, 0, -1);
        dueLine(x, 0, 0, 1, FAIL, -1, 0, 0, 1, -1);
        dueLine(x, 2, 5, 0, NEW, 0, 0, 1, 0, -1);
        dueLine(x, 2, 5, 1, CALL, 0, 0, 1, 1, -1);
        due("13 by the old number", x.line(1, 0, 0, 0), BAD);
        due("13 by the old name", x.line(0, 7, 0, 0), BAD);
        due("13 by both", x.line(1, 7, 0, 0), BAD);
        x = bareByBuild();
        due("13 what stays as abstract has no lines", x.line(0, 0, 0, 0), BAD);
    }

    private static void lineWhat() {
        ShrinkDesk x = Desks.built();
        dueLine(x, 4, 5, 0, NEW, 2, 0, 5, 0, -1);
        dueLine(x, 4, 5, 1, CALL, 0, 0, 5, 1, -1);
        dueLine(x, 4, 5, 2, ENTER, -1, 0, 5, 2, -1);
        dueLine(x, 4, 5, 3, OUT, -1, 99, 6, 0, 2);
        dueLine(x, 4, 5, 4, FAIL, -1, 0, 5, 3, -1);
        for (int k = 0; k < 5; k++) {
            for (int what : new int[] {-1, 6, 7, LOW, HIGH}) {
                due("13 of line " + k + " " + what, x.line(4, 5, k, what), BAD);
            }
        }
    }

    /** The int of an OUT, the name of a CALL or STATIC; what was told for others is not told again. */
    private static void lineIntOfOthers() {
        ShrinkDesk x = Desks.ofClasses(1);
        filled(x, 3, TEST, 0, 44);
        filled(x, 5, NEW, 0, 41, CALL, 0, 3, STATIC, 0, 3, TEST, 0, 42, OUT, 0, 43, FAIL, 0, 45);
        x.keep(0, 1, 1 << 3 | 1 << 5);
        due("13 build", x.build(), OK);
        int[] wants = {0, 3, 3, 0, 43, 0};
        int[] classes = {0, 0, 0, 0, -1, -1};
        for (int k = 0; k < 6; k++) {
            due("13 class of line " + k, x.line(0, 5, k, 1), classes[k]);
            due("13 int of line " + k, x.line(0, 5, k, 2), wants[k]);
        }
        due("13 int of a TEST", x.line(0, 3, 0, 2), 0);
    }

    /** Six calls, three instructions behind each: the greatest length there is. */
    private static void lineOfTheLongest() {
        ShrinkDesk x = Desks.ofClasses(10);
        for (int n = 7; n < 10; n++) {
            filled(x, n, OUT, 0, 10 * n, OUT, 0, 10 * n + 1, OUT, 0, 10 * n + 2);
        }
        filled(x, 0, STATIC, 9, 9, STATIC, 9, 8, STATIC, 9, 7, STATIC, 9, 9, STATIC, 9, 8, STATIC, 9, 7);
        filled(x, 6, STATIC, 9, 5);
        filled(x, 5, TEST, 9, 0);
        x.keep(0, 1 << 9, 1 << 0 | 1 << 6);
        due("13 build", x.build(), OK);
        dueLine(x, 9, 6, 0, STATIC, 9, 1, 4, 0, -1);
        due("13 24 instructions", x.stays(3, 2), 24);
        dueLine(x, 9, 0, 0, ENTER, -1, 0, 3, 0, -1);
        dueLine(x, 9, 0, 20, ENTER, -1, 0, 3, 5, -1);
        dueLine(x, 9, 0, 23, OUT, -1, 72, 0, 2, 5);
        dueLine(x, 9, 0, 24, BAD, BAD, BAD, BAD, BAD, BAD);
        for (int which = 0; which < 2; which++) {
            due("13 it is run", x.run(which, 9, 0), ShrinkDesk.DONE);
            due("13 24 steps", x.state(1), 24);
            due("13 18 ints", x.state(0), 18);
            due("13 the last of them", x.out(17), 72);
        }
    }

    // ---- 14: state ----

    private static void stateOutside() {
        ShrinkDesk x = Desks.built();
        int[] wants = {3, 9, 1, 4, 4};
        for (int what = 0; what < 5; what++) {
            due("14 state " + what, x.state(what), wants[what]);
        }
        for (int what : new int[] {-1, 5, 6, LOW, HIGH}) {
            due("14 state " + what, x.state(what), BAD);
            due("14 state " + what + " of nothing", new ShrinkDesk().state(what), BAD);
        }
        for (int what = 3; what < 5; what++) {
            due("14 nothing built, " + what, Desks.told().state(what), BAD);
            due("14 refused, " + what, Desks.faulty().state(what), BAD);
        }
        x = Desks.ofClasses(10);
        x.keep(0, 1023, 0);
        x.build();
        due("14 all classes stay", x.state(3), 10);
        due("14 no method is there", x.state(4), 0);
        due("14 all of the greatest stay", allOfFull().state(3), 10);
        due("14 all its methods, too", allOfFull().state(4), 30);
    }

    private static ShrinkDesk allOfFull() {
        ShrinkDesk x = new ShrinkDesk();
        for (int m = 0; m < 30; m++) {
            if (m % 3 == 0) {
                x.type(false, -1);
            }
            x.method(m % 3, m % 2 == 0);
        }
        x.keep(0, 1023, 7);
        x.build();
        return x;
    }

    private static void stateOfTheLatestRun() {
        ShrinkDesk x = Desks.built();
        due("14 another run", x.run(0, 4, 6), ShrinkDesk.DONE);
        int[] wants = {1, 1, 0, 4, 4};
        for (int what = 0; what < 5; what++) {
            due("14 state " + what + " then", x.state(what), wants[what]);
        }
        due("14 a refused one", x.run(0, 4, 7), BAD);
        due("14 is not the latest", x.state(0), 1);
        x = Desks.ofClasses(1);
        filled(x, 0);
        due("14 an empty one", x.run(0, 0, 0), ShrinkDesk.DONE);
        for (int what = 0; what < 3; what++) {
            due("14 of an empty one, " + what, x.state(what), 0);
        }
    }

    // ---- 15: out ----

    private static void outAtTheEdges() {
        ShrinkDesk x = Desks.built();
        due("15 the first", x.out(0), 5);
        due("15 the last", x.out(2), 99);
        for (int k : new int[] {-1, 3, 4, 199, 200, 201, LOW, HIGH}) {
            due("15 none at " + k, x.out(k), 0);
        }
        x.run(0, 4, 6);
        due("15 of the latest run", x.out(0), 99);
        due("15 none of the one before", x.out(1), 0);
    }

    // ---- 16: trace ----

    private static void traceAtTheEdges() {
        ShrinkDesk x = Desks.ofClasses(1);
        for (int n = 0; n < 9; n++) {
            filled(x, n, OUT, 0, n, STATIC, 0, n + 1);
        }
        filled(x, 9, TEST, 0, 0);
        due("16 eight at work", x.run(0, 0, 0), ShrinkDesk.DEEP);
        dueTrace("16 eight at work", x, 7, 1, 6, 1, 5, 1, 4, 1, 3, 1, 2, 1, 1, 1, 0, 1);
        for (int k : new int[] {-1, 8, 9, LOW, HIGH}) {
            due("16 none at " + k, x.trace(k, 0), BAD);
            due("16 none at " + k + ", its line", x.trace(k, 1), BAD);
        }
        for (int what : new int[] {-1, 2, 3, LOW, HIGH}) {
            due("16 what " + what + " of the first", x.trace(0, what), BAD);
            due("16 what " + what + " of the last", x.trace(7, what), BAD);
        }
        due("16 one that is done", x.run(0, 0, 9), ShrinkDesk.DONE);
        dueTrace("16 none at work", x);
    }

    // ---- 17: order and limits ----

    private static void badBeforeFull() {
        for (int parent : new int[] {-2, 0, 2, 10, LOW, HIGH}) {
            Unchanged.by("17 full, but parent " + parent, Desks::full, x -> x.type(false, parent), BAD);
        }
        for (int parent : new int[] {-2, 0, 3, 9, 10, LOW, HIGH}) {
            Unchanged.by("17 full, but interface with " + parent, Desks::full, x -> x.type(true, parent), BAD);
        }
        for (int name : new int[] {-1, 10, LOW, HIGH, 0, 1, 2}) {
            Unchanged.by("17 full, but name " + name, Desks::full, x -> x.method(name, false), BAD);
            Unchanged.by("17 full, but abstract name " + name, Desks::full, x -> x.method(name, true), BAD);
        }
        Unchanged.by("17 full, and nothing else: class", Desks::full, x -> x.type(false, 3), FULL);
        Unchanged.by("17 full, and nothing else: method", Desks::full, x -> x.method(9, true), FULL);
        Supplier<ShrinkDesk> made = () -> {
            ShrinkDesk x = new ShrinkDesk();
            for (int m = 0; m < 30; m++) {
                if (m % 10 == 0) {
                    x.type(true, -1);
                }
                x.method(m % 10, true);
            }
            x.type(true, -1);
            return x;
        };
        Unchanged.by("17 full, but filled in an interface", made, x -> x.method(0, false), BAD);
        Unchanged.by("17 full, in an interface", made, x -> x.method(0, true), FULL);
    }

    private static void clearEndsWhatWasBuilt() {
        ShrinkDesk x = Desks.built();
        due("17 clear", x.clear(), 5);
        dueNothingBuilt("17 cleared", x);
        x = new ShrinkDesk();
        x.build();
        due("17 nothing, but built", x.state(3), 0);
        due("17 clear of nothing", x.clear(), 0);
        due("17 is no more built", x.state(3), BAD);
    }

    // ---- asking is no change ----

    private static void questionsChangeNothing() {
        Supplier<ShrinkDesk> made = Desks::built;
        Unchanged.by("10 asked", made, ShrinkDesk::place, -1);
        Unchanged.by("11 asked", made, x -> x.renamed(4), 4);
        Unchanged.by("11 asked of none", made, x -> x.renamed(5), BAD);
        Unchanged.by("12 asked", made, x -> x.stays(5, 2), 5);
        Unchanged.by("12 asked of none", made, x -> x.stays(7, 2), BAD);
        Unchanged.by("13 asked", made, x -> x.line(4, 5, 4, 5), -1);
        Unchanged.by("13 asked of none", made, x -> x.line(4, 5, 5, 5), BAD);
        Unchanged.by("14 asked", made, x -> x.state(1), 9);
        Unchanged.by("14 asked for others", made, x -> x.state(5), BAD);
        Unchanged.by("15 asked", made, x -> x.out(2), 99);
        Unchanged.by("15 asked of none", made, x -> x.out(3), 0);
        Unchanged.by("16 asked", made, x -> x.trace(0, 1), 3);
        Unchanged.by("16 asked of none", made, x -> x.trace(1, 1), BAD);
    }

    // ---- at most 512 calls ----

    private static void upTo512Calls() {
        ShrinkDesk x = new ShrinkDesk();
        for (int call = 1; call < 484; call += 4) {
            due("call " + call, x.type(false, -1), 0);
            due("call " + call + " and 1", x.method(0, true), 0);
            due("call " + call + " and 2", x.build(), OK);
            due("call " + call + " and 3", x.clear(), 1);
        }
        // 484 calls are behind; 5 classes, an INTERFACE, 7 methods, 10 instructions, a rule: 24 more.
        Desks.tell(x);
        due("call 509", x.build(), OK);
        due("call 510", x.run(1, 4, 5), ShrinkDesk.FAILED);
        due("call 511", x.state(1), 9);
        due("call 512", x.out(2), 99);
    }
}
