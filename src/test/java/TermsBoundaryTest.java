import java.util.function.Supplier;

/**
 * Each sentence of the document's Terms that names a boundary case, in their order: what is just
 * inside and what is just outside. What is run is run in both programs.
 */
public final class TermsBoundaryTest extends Checks {
    private static final int DONE = ShrinkDesk.DONE, FAILED = ShrinkDesk.FAILED, MISS = ShrinkDesk.MISS,
        ABSENT = ShrinkDesk.ABSENT, DEEP = ShrinkDesk.DEEP, LONG = ShrinkDesk.LONG;
    private static final int[] NOTHING = {};

    private TermsBoundaryTest() { }

    public static void main(String[] args) {
        classesZeroToNine();
        parentOfParents();
        upToTwoInterfaces();
        ancestorsOfAClass();
        methodsZeroToTwentyNine();
        namesZeroToNine();
        upToSixInstructions();
        findsTheNearest();
        findsWhatIsAbstract();
        findsTheLeastOfTheAncestors();
        heldInTheFirst();
        heldAsInTheOneItCameFrom();
        heldWhenItGoesOn();
        stepsOfEachEnding();
        outAnyInt();
        newHoldsTheLatest();
        callMisses();
        callOfAbstract();
        staticOfAnything();
        testLeavesOneOut();
        testBehindTheLast();
        failEndsAtOnce();
        eightInvocations();
        eightAgainAndAgain();
        missAndAbsentBeforeDeep();
        endsBehindTheLast();
        twoHundredSteps();
        twoHundredStepsInEntered();
        endingsAtTheTwoHundredth();
        deepAtTheTwoHundredth();
        upToFourRules();
        rootsAndKept();
        markingIsLeast();
        markingOfRoots();
        markingOfCalls();
        markingOfInstructions();
        markingGoesOn();
        inlinedAtMostThree();
        inlinedOutAndFailAlone();
        inlinedOnlyOnce();
        inlinedCallOfMadeClasses();
        inlinedCallNotOfAbstract();
        enterNamesTheClassOfACall();
        linesAreNumberedAnew();
        enterMisses();
        testLeavesEnterOut();
        newNumbersOfClasses();
        newNumbersOfKeptThatGo();
        familyByAClassThatStays();
        familyByOthers();
        sightOfFamilies();
        familyKeepsItsName();
        familyOfAKeptOneThatGoes();
        familiesInOrder();
        newNamesAboveNine();
        finish("TermsBoundaryTest");
    }

    /** The root, name n of class c, ends so in the old program and in the new one. */
    private static void dueRuns(String what, ShrinkDesk x, int c, int n, int ending, int steps, int... outs) {
        due(what + ": rule", x.keep(0, 1 << c, 1 << n), true);
        due(what + ": build", x.build(), OK);
        for (int which = 0; which < 2; which++) {
            String told = what + ", program " + which;
            due(told, x.run(which, c, n), ending);
            due(told + ": steps", x.state(1), steps);
            dueOuts(told, x, outs);
        }
    }

    /** The latest run of a desk was of the new program; the old one tells the same. */
    private static void dueTraces(String what, ShrinkDesk x, int c, int n, int... wants) {
        for (int which = 0; which < 2; which++) {
            x.run(which, c, n);
            dueTrace(what + ", program " + which, x, wants);
        }
    }

    // ---- classes ----

    private static void classesZeroToNine() {
        ShrinkDesk x = new ShrinkDesk();
        for (int c = 0; c < 10; c++) {
            due("class " + c + ", as it comes", x.type(c % 2 == 1 && c < 9, -1), c);
        }
        filled(x, 0, NEW, 9, 0, TEST, 9, 0, OUT, 0, 9, NEW, 0, 0, TEST, 9, 0, OUT, 0, 0);
        dueRuns("class 9 and class 0", x, 9, 0, DONE, 5, 9);
    }

    private static void parentOfParents() {
        ShrinkDesk x = Desks.ofClasses(1);
        filled(x, 3, OUT, 0, 33, TEST, 0, 0, OUT, 0, 34);
        for (int c = 1; c < 10; c++) {
            due("child " + c, x.type(false, c - 1), c);
        }
        filled(x, 0, NEW, 9, 0, CALL, 0, 3, STATIC, 9, 3);
        dueRuns("nine parents up", x, 9, 0, DONE, 9, 33, 34, 33, 34);
    }

    private static void upToTwoInterfaces() {
        for (int k = 0; k < 2; k++) {
            boolean isInterface = k == 1;
            Supplier<ShrinkDesk> made = () -> {
                ShrinkDesk x = Desks.ofInterfaces(3);
                x.type(isInterface, -1);
                due("the first of two", x.also(2), true);
                due("the second of two", x.also(0), true);
                due("a third", x.also(1), false);
                x.type(false, -1);
                due("one that has them", x.also(3), isInterface);
                return x;
            };
            if (isInterface) {
                dueDescends("an interface with two", made, 4, 0, 2, 3, 4);
            } else {
                dueDescends("a class with two", made, 3, 0, 2, 3);
            }
        }
    }

    /** An object of the class is held; it descends from these and no others. */
    private static void dueDescends(String what, Supplier<ShrinkDesk> made, int held, int... ancestors) {
        int classes = made.get().type(false, -1);
        for (int c = 0; c <= classes; c++) {
            boolean isOne = (set(ancestors) >> c & 1) != 0;
            ShrinkDesk x = made.get();
            int user = x.type(false, -1);
            filled(x, 0, NEW, held, 0, TEST, c, 0, OUT, 0, 7);
            dueRuns(what + ", " + held + " from " + c, x, user, 0, DONE, isOne ? 3 : 2,
                isOne ? new int[] {7} : NOTHING);
        }
    }

    private static void ancestorsOfAClass() {
        Supplier<ShrinkDesk> made = () -> {
            ShrinkDesk x = Desks.ofInterfaces(1);
            x.type(true, -1);
            x.also(0);
            x.type(true, -1);
            x.type(false, -1);
            x.also(1);
            x.type(false, 3);
            x.also(2);
            x.type(false, 4);
            x.type(false, 3);
            return x;
        };
        dueDescends("interface of an interface", made, 3, 0, 1, 3);
        dueDescends("parent and interface", made, 4, 0, 1, 2, 3, 4);
        dueDescends("parent's parent and interfaces", made, 5, 0, 1, 2, 3, 4, 5);
        dueDescends("not what its sister has", made, 6, 0, 1, 3, 6);
        dueDescends("itself alone", () -> Desks.ofClasses(3), 1, 1);
    }

    // ---- methods ----

    private static void methodsZeroToTwentyNine() {
        ShrinkDesk x = new ShrinkDesk();
        for (int m = 0; m < 30; m++) {
            if (m % 3 == 0) {
                x.type(false, -1);
            }
            due("method " + m + ", as it comes", x.method(m % 3, false), m);
            due("its instruction", x.code(m < 29 ? TEST : FAIL, 0, 0), true);
        }
        due("method 30", x.method(3, false), FULL);
        dueRuns("method 29", x, 9, 2, FAILED, 1);
        dueTraces("method 29", x, 9, 2, 29, 0);
        due("method 0 can be run", x.run(0, 0, 0), DONE);
        due("method 29 stays", x.stays(29, 0), 2);
        due("method 28 does not", x.stays(28, 0), 0);
        due("method 30 is none", x.stays(30, 0), BAD);
    }

    private static void namesZeroToNine() {
        ShrinkDesk x = Desks.ofClasses(1);
        due("name -1", x.method(-1, false), BAD);
        due("name 10", x.method(10, false), BAD);
        for (int n = 0; n < 10; n++) {
            filled(x, n, OUT, 0, n);
            due("name " + n + " twice", x.method(n, false), BAD);
            due("name " + n + " twice, abstract", x.method(n, true), BAD);
        }
        x.keep(0, 1, 1023);
        due("ten names: build", x.build(), OK);
        for (int n = 0; n < 10; n++) {
            for (int which = 0; which < 2; which++) {
                due("name " + n, x.run(which, 0, n), DONE);
                dueOuts("name " + n, x, n);
            }
        }
        for (int n : new int[] {-1, 10}) {
            due("no name " + n, x.run(0, 0, n), BAD);
            due("no name " + n + " as built", x.run(1, 0, n), BAD);
        }
    }

    private static void upToSixInstructions() {
        ShrinkDesk x = Desks.ofClasses(1);
        filled(x, 0);
        dueRuns("no instruction", x, 0, 0, DONE, 0);
        x = Desks.ofClasses(1);
        filled(x, 0, OUT, 0, 0, OUT, 0, 1, OUT, 0, 2, OUT, 0, 3, OUT, 0, 4, FAIL, 0, 0);
        due("a seventh", x.code(OUT, 0, 6), false);
        dueRuns("LINES 0 to 5", x, 0, 0, FAILED, 6, 0, 1, 2, 3, 4);
        dueTraces("LINE 5", x, 0, 0, 0, 5);
        due("six instructions", x.stays(0, 2), 6);
    }

    // ---- what a class finds ----

    private static void findsTheNearest() {
        int[] nearest = {0, 0, 2, 2, 4};
        for (int c = 0; c < 5; c++) {
            ShrinkDesk x = Desks.ofClasses(1);
            filled(x, 0, TEST, 0, 0, OUT, 0, 100);
            x.type(false, 0);
            x.type(false, 1);
            filled(x, 0, TEST, 0, 0, OUT, 0, 102);
            x.type(false, 2);
            x.type(false, 3);
            filled(x, 0, TEST, 0, 0, OUT, 0, 104);
            x.type(false, -1);
            filled(x, 0, NEW, c, 0, CALL, 0, 0, STATIC, c, 0);
            dueRuns("class " + c + " finds the nearest", x, 5, 0, DONE, 7, 100 + nearest[c], 100 + nearest[c]);
        }
    }

    /** What is nearest counts, though it is ABSTRACT; and a PARENT's comes before INTERFACES'. */
    private static void findsWhatIsAbstract() {
        ShrinkDesk x = Desks.ofInterfaces(1);
        x.method(0, true);
        x.type(false, -1);
        filled(x, 0, OUT, 0, 1);
        x.type(false, 1);
        x.also(0);
        due("the parent's before an interface's", x.run(0, 2, 0), DONE);
        x.method(0, true);
        due("its own, abstract, before the parent's", x.run(0, 2, 0), BAD);
        x.type(false, 2);
        due("the nearest, abstract", x.run(0, 3, 0), BAD);
        filled(x, 0, OUT, 0, 3);
        due("its own, filled", x.run(0, 3, 0), DONE);
        dueOuts("its own, filled", x, 3);
    }

    private static void findsTheLeastOfTheAncestors() {
        dueLeast("the lesser of two", 2, new int[] {2, 1}, 0);
        dueLeast("the lesser of two, told first", 2, new int[] {1, 2}, 0);
        dueLeast("the only one", 2, new int[] {2}, 1);
        dueLeast("one without it before", 2, new int[] {0, 2}, 1);
        dueLeast("one of the parent's", 1, new int[] {2}, 0);
        ShrinkDesk x = Desks.ofInterfaces(1);
        x.method(0, true);
        x.type(true, -1);
        x.also(0);
        x.method(0, true);
        x.type(false, -1);
        filled(x, 5, CALL, 1, 0);
        x.keep(0, 1 << 2, 1 << 5);
        x.build();
        due("an interface's own is before a lesser one's", x.stays(1, 0), 1);
        due("so that one goes", x.stays(0, 0), 0);
    }

    /**
     * Interfaces 0, 1, 2, the last two with name 0 (methods 0 and 1); class 3 with one of them, its
     * child 4 with those told. The method that 4 finds is named and stays, the other one goes.
     */
    private static void dueLeast(String what, int ofParent, int[] interfaces, int found) {
        ShrinkDesk x = Desks.ofInterfaces(2);
        x.method(0, true);
        x.type(true, -1);
        x.method(0, true);
        x.type(false, -1);
        x.also(ofParent);
        x.type(false, 3);
        for (int i : interfaces) {
            due(what + ": has " + i, x.also(i), true);
        }
        filled(x, 5, CALL, 4, 0);
        x.keep(0, 1 << 4, 1 << 5);
        due(what + ": build", x.build(), OK);
        due(what + ": found", x.stays(found, 0), 1);
        due(what + ": not found", x.stays(1 - found, 0), 0);
    }

    // ---- what is held ----

    private static void heldInTheFirst() {
        ShrinkDesk x = Desks.ofClasses(1);
        filled(x, 0, TEST, 0, 0, OUT, 0, 1, NEW, 0, 0, TEST, 0, 0, OUT, 0, 2);
        dueRuns("nothing is held in the first", x, 0, 0, DONE, 4, 2);
        due("run again", x.run(0, 0, 0), DONE);
        dueOuts("nor in the first of another run", x, 2);
    }

    private static void heldAsInTheOneItCameFrom() {
        for (int op = CALL; op <= STATIC; op++) {
            ShrinkDesk x = Desks.ofClasses(1);
            filled(x, 0, TEST, 0, 0, OUT, 0, 1, op, 0, 1);
            filled(x, 1, TEST, 0, 0, OUT, 0, 2);
            filled(x, 2, NEW, 0, 0, op, 0, 0);
            dueRuns("held in the next two, op " + op, x, 0, 2, DONE, 7, 1, 2);
        }
        ShrinkDesk x = Desks.ofClasses(1);
        filled(x, 0, TEST, 0, 0, OUT, 0, 1);
        filled(x, 1, STATIC, 0, 0);
        dueRuns("nothing held in the next", x, 0, 1, DONE, 2);
    }

    private static void heldWhenItGoesOn() {
        ShrinkDesk x = Desks.ofClasses(2);
        filled(x, 0, NEW, 0, 0, TEST, 0, 0, OUT, 0, 1);
        filled(x, 1, STATIC, 1, 0, TEST, 0, 0, OUT, 0, 2, NEW, 1, 0, CALL, 1, 0, STATIC, 1, 2);
        filled(x, 2, TEST, 1, 0, OUT, 0, 3, TEST, 0, 0, OUT, 0, 4);
        dueRuns("what was held before the call", x, 1, 1, DONE, 14, 1, 1, 3);
    }

    // ---- steps and instructions ----

    private static void stepsOfEachEnding() {
        dueSteps("an OUT", DONE, 1, OUT, 0, 7);
        dueSteps("a NEW", DONE, 1, NEW, 0, 0);
        dueSteps("a TEST", DONE, 1, TEST, 0, 0);
        dueSteps("a TEST and what it leaves out", DONE, 1, TEST, 0, 0, NEW, 0, 0);
        dueSteps("a TEST and what it does not", DONE, 3, NEW, 0, 0, TEST, 0, 0, NEW, 0, 0);
        dueSteps("a CALL of an empty one", DONE, 2, NEW, 0, 0, CALL, 0, 1);
        dueSteps("a STATIC of an empty one", DONE, 1, STATIC, 0, 1);
        dueSteps("what fails", FAILED, 1, FAIL, 0, 0);
        dueSteps("what misses", MISS, 1, CALL, 0, 1);
        dueSteps("what is absent", ABSENT, 2, NEW, 0, 0, CALL, 0, 2);
        dueSteps("what is too deep", DEEP, 8, STATIC, 0, 0);
    }

    /** Class 0 with name 0 as told, 1 empty, and 2 abstract. */
    private static void dueSteps(String what, int ending, int steps, int... code) {
        ShrinkDesk x = Desks.ofClasses(1);
        filled(x, 0, code);
        filled(x, 1);
        x.method(2, true);
        dueRuns("the steps of " + what, x, 0, 0, ending, steps, code[0] == OUT ? new int[] {7} : NOTHING);
    }

    private static void outAnyInt() {
        ShrinkDesk x = Desks.ofClasses(1);
        filled(x, 0, OUT, 0, LOW, OUT, 0, -1, OUT, 0, 0, OUT, 0, 10, OUT, 0, HIGH);
        filled(x, 1, OUT, 0, LOW, OUT, 0, HIGH);
        filled(x, 2, STATIC, 0, 0, STATIC, 0, 1);
        dueRuns("any int", x, 0, 2, DONE, 9, LOW, -1, 0, 10, HIGH, LOW, HIGH);
    }

    private static void newHoldsTheLatest() {
        ShrinkDesk x = Desks.ofClasses(2);
        filled(x, 0, NEW, 0, 0, NEW, 1, 0, TEST, 0, 0, OUT, 0, 0, TEST, 1, 0, OUT, 0, 1);
        dueRuns("the latest object alone", x, 1, 0, DONE, 5, 1);
    }

    private static void callMisses() {
        int[] held = {-1, 0, 1, 2, 3};
        int[] endings = {MISS, MISS, DONE, DONE, MISS};
        for (int k = 0; k < held.length; k++) {
            ShrinkDesk x = Desks.ofClasses(1);
            filled(x, 0, TEST, 0, 0);
            x.type(false, 0);
            x.type(false, 1);
            x.type(false, -1);
            filled(x, 0, TEST, 0, 0);
            if (held[k] < 0) {
                filled(x, 1, OUT, 0, 8, CALL, 1, 0, OUT, 0, 9);
            } else {
                filled(x, 1, NEW, held[k], 0, OUT, 0, 8, CALL, 1, 0, OUT, 0, 9);
            }
            boolean isDone = endings[k] == DONE;
            int steps = isDone ? 5 : held[k] < 0 ? 2 : 3;
            dueRuns("CALL 1 with " + held[k] + " held", x, 3, 1, endings[k], steps,
                isDone ? new int[] {8, 9} : new int[] {8});
        }
    }

    private static void callOfAbstract() {
        ShrinkDesk x = Desks.ofClasses(1);
        filled(x, 0, TEST, 0, 0);
        x.type(false, 0);
        x.method(0, true);
        x.type(false, 1);
        x.type(false, 2);
        filled(x, 0, TEST, 0, 0);
        filled(x, 5, NEW, 0, 0, CALL, 0, 0, NEW, 3, 0, CALL, 0, 0, NEW, 2, 0, CALL, 0, 0);
        dueRuns("abstract for one of three", x, 3, 5, ABSENT, 8);
        dueTraces("abstract for one of three", x, 3, 5, 3, 5);
        x = Desks.ofInterfaces(1);
        x.method(0, true);
        x.type(false, -1);
        x.also(0);
        filled(x, 5, NEW, 1, 0, CALL, 0, 0);
        dueRuns("abstract in an interface", x, 1, 5, ABSENT, 2);
        x = Desks.ofInterfaces(1);
        x.method(0, true);
        x.type(false, -1);
        filled(x, 5, NEW, 1, 0, CALL, 0, 0);
        dueRuns("MISS is before ABSENT", x, 1, 5, MISS, 2);
    }

    private static void staticOfAnything() {
        for (int held = -1; held < 3; held++) {
            ShrinkDesk x = Desks.ofClasses(1);
            filled(x, 0, TEST, 1, 0, OUT, 0, 5);
            x.type(false, 0);
            filled(x, 0, TEST, 1, 0, OUT, 0, 6);
            x.type(false, -1);
            if (held < 0) {
                filled(x, 5, TEST, 0, 0, STATIC, 0, 0, STATIC, 0, 0);
            } else {
                filled(x, 5, NEW, held, 0, STATIC, 0, 0, STATIC, 0, 0);
            }
            boolean is1 = held == 1;
            dueRuns("STATIC of 0 with " + held + " held", x, 2, 5, DONE, held < 0 ? 3 : is1 ? 7 : 5,
                is1 ? new int[] {5, 5} : NOTHING);
        }
    }

    private static void testLeavesOneOut() {
        ShrinkDesk x = Desks.ofClasses(2);
        filled(x, 0, TEST, 0, 0, OUT, 0, 1, OUT, 0, 2);
        dueRuns("one is left out, not two", x, 1, 0, DONE, 2, 2);
        x = Desks.ofClasses(2);
        filled(x, 0, NEW, 0, 0, TEST, 0, 0, OUT, 0, 1, OUT, 0, 2);
        dueRuns("none is left out", x, 1, 0, DONE, 4, 1, 2);
        x = Desks.ofClasses(2);
        filled(x, 0, NEW, 0, 0, TEST, 1, 0, OUT, 0, 1, OUT, 0, 2);
        dueRuns("one is left out, another class is held", x, 1, 0, DONE, 3, 2);
        x = Desks.ofClasses(2);
        filled(x, 0, TEST, 0, 0, TEST, 0, 0, OUT, 0, 1);
        dueRuns("a TEST that is left out leaves nothing out", x, 1, 0, DONE, 2, 1);
        x = Desks.ofClasses(2);
        filled(x, 0, TEST, 0, 0, FAIL, 0, 0, OUT, 0, 1);
        dueRuns("a FAIL is left out", x, 1, 0, DONE, 2, 1);
        x = Desks.ofClasses(2);
        filled(x, 0, TEST, 0, 0, CALL, 1, 0, OUT, 0, 1);
        dueRuns("a CALL is left out", x, 1, 0, DONE, 2, 1);
    }

    private static void testBehindTheLast() {
        ShrinkDesk x = Desks.ofClasses(1);
        filled(x, 0, TEST, 0, 0);
        filled(x, 1, STATIC, 0, 0, OUT, 0, 1, OUT, 0, 2, TEST, 0, 0);
        filled(x, 2, STATIC, 0, 1, OUT, 0, 3, NEW, 0, 0, TEST, 0, 0);
        dueRuns("nothing behind the last one is left out", x, 0, 2, DONE, 9, 1, 2, 3);
        x = Desks.ofClasses(1);
        filled(x, 0, OUT, 0, 1, OUT, 0, 2, OUT, 0, 3, OUT, 0, 4, TEST, 0, 0, FAIL, 0, 0);
        filled(x, 1, STATIC, 0, 0, OUT, 0, 5);
        dueRuns("the last one is left out", x, 0, 1, DONE, 7, 1, 2, 3, 4, 5);
        x = Desks.ofClasses(1);
        filled(x, 0, OUT, 0, 1, OUT, 0, 2, OUT, 0, 3, OUT, 0, 4, OUT, 0, 5, TEST, 0, 0);
        filled(x, 1, FAIL, 0, 0);
        dueRuns("LINE 5 is a TEST, another method is next", x, 0, 0, DONE, 6, 1, 2, 3, 4, 5);
    }

    private static void failEndsAtOnce() {
        ShrinkDesk x = Desks.ofClasses(1);
        filled(x, 0, OUT, 0, 1, FAIL, 0, 0, OUT, 0, 2);
        filled(x, 1, STATIC, 0, 0, OUT, 0, 3);
        dueRuns("nothing is done behind FAIL", x, 0, 1, FAILED, 3, 1);
        dueTraces("FAIL", x, 0, 1, 0, 1, 1, 0);
    }

    // ---- invocations ----

    /**
     * Class 0, with as many invocations as told, one of the next, before the instructions are done;
     * class 1 with names 0, which is not short, 1, which is, 2, empty, and 3, abstract.
     */
    private static ShrinkDesk ladder(int depth, int... code) {
        ShrinkDesk x = Desks.ofClasses(1);
        for (int n = 0; n < depth - 1; n++) {
            filled(x, n, STATIC, 0, n + 1);
        }
        filled(x, depth - 1, code);
        x.type(false, -1);
        filled(x, 0, TEST, 1, 0);
        filled(x, 1, OUT, 0, 7);
        filled(x, 2);
        x.method(3, true);
        return x;
    }

    private static int[] ladderTrace(int depth, int line) {
        int[] trace = new int[2 * depth];
        for (int k = 0; k < depth; k++) {
            trace[2 * k] = depth - 1 - k;
        }
        trace[1] = line;
        return trace;
    }

    private static void eightInvocations() {
        for (int op = CALL; op <= STATIC; op++) {
            for (int n = 0; n < 3; n++) {
                String what = "op " + op + " of name " + n;
                int inside = n == 2 ? 0 : 1;
                ShrinkDesk x = ladder(7, NEW, 1, 0, op, 1, n);
                dueRuns("eight, " + what, x, 0, 0, DONE, 8 + inside, n == 1 ? new int[] {7} : NOTHING);
                due("done where it is called, " + what, x.stays(7 + n, 0), n == 0 ? 2 : 0);
                x = ladder(8, NEW, 1, 0, op, 1, n);
                dueRuns("nine, " + what, x, 0, 0, DEEP, 9);
                due("done where it is called, nine, " + what, x.stays(8 + n, 0), n == 0 ? 2 : 0);
                dueTraces("nine, " + what, x, 0, 0, ladderTrace(8, 1));
            }
        }
        ShrinkDesk x = Desks.ofClasses(1);
        filled(x, 0, STATIC, 0, 0);
        dueRuns("without end", x, 0, 0, DEEP, 8);
        dueTraces("without end", x, 0, 0, new int[16]);
        x = ladder(7, NEW, 1, 0, STATIC, 1, 1, FAIL, 0, 0);
        dueRuns("an invocation that ended is not at work", x, 0, 0, FAILED, 10, 7);
        dueTraces("an invocation that ended is not at work", x, 0, 0, ladderTrace(7, 2));
    }

    private static void eightAgainAndAgain() {
        ShrinkDesk x = ladder(7, NEW, 1, 0, STATIC, 1, 0, STATIC, 1, 1, CALL, 1, 1, CALL, 1, 0, STATIC, 1, 2);
        dueRuns("each ends before the next begins", x, 0, 0, DONE, 16, 7, 7);
        x = Desks.ofClasses(2);
        filled(x, 0, OUT, 0, 1, FAIL, 0, 0);
        filled(x, 7, STATIC, 1, 0);
        for (int n = 6; n > 0; n--) {
            filled(x, n, STATIC, 1, n + 1);
        }
        dueRuns("eight at work, one of them entered", x, 1, 1, FAILED, 9, 1);
        dueTraces("eight at work, one of them entered", x, 1, 1,
            0, 1, 1, 0, 2, 0, 3, 0, 4, 0, 5, 0, 6, 0, 7, 0);
    }

    private static void missAndAbsentBeforeDeep() {
        for (int depth = 7; depth < 9; depth++) {
            String what = depth + " at work: ";
            ShrinkDesk x = ladder(depth, CALL, 1, 0);
            dueRuns(what + "nothing held", x, 0, 0, MISS, depth);
            dueTraces(what + "nothing held", x, 0, 0, ladderTrace(depth, 0));
            x = ladder(depth, NEW, 0, 0, CALL, 1, 0);
            dueRuns(what + "another held", x, 0, 0, MISS, depth + 1);
            x = ladder(depth, NEW, 1, 0, CALL, 1, 3);
            dueRuns(what + "abstract", x, 0, 0, ABSENT, depth + 1);
            dueTraces(what + "abstract", x, 0, 0, ladderTrace(depth, 1));
            // Class 1 is made, so that the CALL is INLINED, but nothing is held there.
            x = ladder(depth, TEST, 1, 0, NEW, 1, 0, CALL, 1, 1);
            dueRuns(what + "nothing held at ENTER", x, 0, 0, MISS, depth + 1);
            due(what + "it was INLINED", x.stays(depth + 1, 0), 0);
            dueTraces(what + "nothing held at ENTER", x, 0, 0, ladderTrace(depth, 2));
        }
    }

    private static void endsBehindTheLast() {
        ShrinkDesk x = ladder(8, OUT, 0, 5);
        dueRuns("all eight end behind the last instruction", x, 0, 0, DONE, 8, 5);
        dueTraces("none is at work", x, 0, 0);
        x = Desks.ofClasses(1);
        filled(x, 0, TEST, 0, 0, OUT, 0, 1, OUT, 0, 2);
        filled(x, 1, STATIC, 0, 0, OUT, 0, 3, STATIC, 0, 0);
        filled(x, 2, STATIC, 0, 1, OUT, 0, 4);
        dueRuns("the one it came from goes on", x, 0, 2, DONE, 9, 2, 3, 2, 4);
    }

    // ---- steps at the bound ----

    /** Behind 195 steps comes what is told, on LINES 2 and more of method 4, name 9. */
    private static ShrinkDesk behind195(int[] main, int... callee) {
        ShrinkDesk x = Desks.ofClasses(1);
        filled(x, 0, OUT, 0, 1, OUT, 0, 2, OUT, 0, 3, OUT, 0, 4, OUT, 0, 5, OUT, 0, 6);
        filled(x, 1, STATIC, 0, 0, STATIC, 0, 0, STATIC, 0, 0, STATIC, 0, 0, STATIC, 0, 0, STATIC, 0, 0);
        filled(x, 2, STATIC, 0, 1, STATIC, 0, 1, STATIC, 0, 1, STATIC, 0, 1);
        filled(x, 3, STATIC, 0, 0, STATIC, 0, 0, STATIC, 0, 0);
        // 1 + 4 * (1 + 6 * 7), and 1 + 3 * 7.
        filled(x, 9, STATIC, 0, 2, STATIC, 0, 3);
        for (int k = 0; k < main.length; k += 3) {
            due("instruction accepted", x.code(main[k], main[k + 1], main[k + 2]), true);
        }
        filled(x, 4, callee);
        x.method(8, true);
        return x;
    }

    private static final int OUTS_BEHIND_195 = (24 + 3) * 6;

    private static int[] outs(int count) {
        int[] code = new int[3 * count];
        for (int k = 0; k < count; k++) {
            code[3 * k + 2] = 50 + k;
        }
        return code;
    }

    private static void dueBound(String what, ShrinkDesk x, int ending, int steps, int outs, int... trace) {
        x.keep(0, 1, 1 << 9);
        due(what + ": build", x.build(), OK);
        for (int which = 0; which < 2; which++) {
            String told = what + ", program " + which;
            due(told, x.run(which, 0, 9), ending);
            due(told + ": steps", x.state(1), steps);
            due(told + ": outs", x.state(0), OUTS_BEHIND_195 + outs);
            due(told + ": behind the outs", x.out(OUTS_BEHIND_195 + outs), 0);
            dueTrace(told, x, trace);
        }
    }

    private static void twoHundredSteps() {
        int[] main = {STATIC, 0, 4};
        for (int count = 0; count <= 4; count++) {
            dueBound(196 + count + " steps", behind195(main, outs(count)), DONE, 196 + count, count);
        }
        dueBound("201 steps", behind195(main, outs(5)), LONG, 200, 4, 5, 4, 4, 2);
        dueBound("202 steps", behind195(main, outs(6)), LONG, 200, 4, 5, 4, 4, 2);
        dueBound("199 steps in the first", behind195(outs(4)), DONE, 199, 4);
    }

    private static void twoHundredStepsInEntered() {
        int[] two = {OUT, 0, 1, OUT, 0, 2, STATIC, 0, 4};
        dueBound("200 with two entered", behind195(two, outs(2)), DONE, 200, 4);
        dueBound("201 with three entered", behind195(two, outs(3)), LONG, 200, 4, 5, 2, 4, 4);
        int[] three = {OUT, 0, 1, OUT, 0, 2, OUT, 0, 3, STATIC, 0, 4};
        dueBound("199 with none entered", behind195(three), DONE, 199, 3);
        dueBound("200 with one entered", behind195(three, outs(1)), DONE, 200, 4);
        dueBound("201 with two entered", behind195(three, outs(2)), LONG, 200, 4, 5, 1, 4, 5);
        int[] between = {OUT, 0, 1, OUT, 0, 2, STATIC, 0, 4, OUT, 0, 3};
        dueBound("199 behind what was entered", behind195(between), DONE, 199, 3);
        dueBound("200 behind what was entered", behind195(between, outs(1)), DONE, 200, 4);
        dueBound("201 behind what was entered", behind195(between, outs(2)), LONG, 200, 4, 4, 5);
        dueBound("201 within what was entered", behind195(between, outs(3)), LONG, 200, 4, 5, 2, 4, 4);
        int[] last = {OUT, 0, 1, OUT, 0, 2, STATIC, 0, 4, STATIC, 0, 4};
        dueBound("199 by two ENTERs", behind195(last), DONE, 199, 2);
        dueBound("201 by two ENTERs", behind195(last, outs(1)), LONG, 200, 3, 5, 0, 4, 5);
    }

    private static void endingsAtTheTwoHundredth() {
        int[] main = {STATIC, 0, 4};
        dueBound("fails with the 200th", behind195(main, OUT, 0, 1, OUT, 0, 2, OUT, 0, 3, FAIL, 0, 0),
            FAILED, 200, 3, 5, 3, 4, 2);
        dueBound("would fail with the 201st",
            behind195(main, OUT, 0, 1, OUT, 0, 2, OUT, 0, 3, OUT, 0, 4, FAIL, 0, 0), LONG, 200, 4, 5, 4, 4, 2);
        dueBound("misses with the 200th", behind195(main, OUT, 0, 1, OUT, 0, 2, OUT, 0, 3, CALL, 0, 0),
            MISS, 200, 3, 5, 3, 4, 2);
        dueBound("would miss with the 201st",
            behind195(main, OUT, 0, 1, OUT, 0, 2, OUT, 0, 3, OUT, 0, 4, CALL, 0, 0), LONG, 200, 4, 5, 4, 4, 2);
        dueBound("is absent with the 200th", behind195(main, OUT, 0, 1, OUT, 0, 2, NEW, 0, 0, CALL, 0, 8),
            ABSENT, 200, 2, 5, 3, 4, 2);
        dueBound("would be absent with the 201st",
            behind195(main, OUT, 0, 1, OUT, 0, 2, OUT, 0, 3, NEW, 0, 0, CALL, 0, 8), LONG, 200, 3, 5, 4, 4, 2);
        dueBound("leaves the last out with the 200th",
            behind195(main, OUT, 0, 1, OUT, 0, 2, OUT, 0, 3, TEST, 0, 0, FAIL, 0, 0), DONE, 200, 3);
        int[] two = {OUT, 0, 1, OUT, 0, 2, STATIC, 0, 4};
        dueBound("fails in an entered one with the 200th", behind195(two, OUT, 0, 1, FAIL, 0, 0),
            FAILED, 200, 3, 5, 1, 4, 4);
        dueBound("would fail in an entered one", behind195(two, OUT, 0, 1, OUT, 0, 2, FAIL, 0, 0),
            LONG, 200, 4, 5, 2, 4, 4);
    }

    /** Eight steps lead from the first invocation to what would be the ninth. */
    private static void deepAtTheTwoHundredth() {
        for (int more = 0; more < 2; more++) {
            ShrinkDesk x = Desks.ofClasses(1);
            filled(x, 0, OUT, 0, 1, OUT, 0, 2, OUT, 0, 3, OUT, 0, 4, OUT, 0, 5, OUT, 0, 6);
            filled(x, 1, STATIC, 0, 0, STATIC, 0, 0, STATIC, 0, 0, STATIC, 0, 0, STATIC, 0, 0, STATIC, 0, 0);
            filled(x, 2, STATIC, 0, 1, STATIC, 0, 1, STATIC, 0, 1, STATIC, 0, 1);
            filled(x, 3, STATIC, 0, 0, STATIC, 0, 0, OUT, 0, 1, OUT, 0, 2, OUT, 0, 3, OUT, 0, 4);
            filled(x, 4, STATIC, 0, 4);
            // 173 + 19, and one more.
            filled(x, 9, STATIC, 0, 2, STATIC, 0, 3);
            if (more == 1) {
                x.code(OUT, 0, 7);
            }
            x.code(STATIC, 0, 4);
            x.keep(0, 1, 1 << 9);
            due("the eighth, deep: build", x.build(), OK);
            for (int which = 0; which < 2; which++) {
                String what = "deep with the " + (200 + more) + "th, program " + which;
                due(what, x.run(which, 0, 9), more == 0 ? DEEP : LONG);
                due(what + ": steps", x.state(1), 200);
                dueTrace(what, x, 4, 0, 4, 0, 4, 0, 4, 0, 4, 0, 4, 0, 4, 0, 5, 2 + more);
            }
        }
    }

    // ---- rules ----

    private static void upToFourRules() {
        for (int count = 0; count <= 4; count++) {
            ShrinkDesk x = Desks.ofClasses(6);
            for (int k = 0; k < count; k++) {
                due("rule " + k, x.keep(0, 1 << k, 0), true);
            }
            due("with " + count + " rules", x.build(), OK);
            for (int c = 0; c < 6; c++) {
                due("with " + count + " rules, class " + c, x.renamed(c), c < count ? c : BAD);
            }
        }
    }

    private static void rootsAndKept() {
        ShrinkDesk x = Desks.ofClasses(2);
        filled(x, 7);
        filled(x, 8);
        x.keep(1, -1, -1);
        due("kept, no roots", x.build(), OK);
        due("so no class stays", x.state(3), 0);
        due("and no method", x.state(4), 0);
        x.keep(0, 1 << 1, 1 << 7);
        due("a root", x.build(), OK);
        due("class 0 is none", x.renamed(0), BAD);
        due("class 1 is one, and kept", x.renamed(1), 1);
        due("name 7 is one", x.stays(0, 0), 2);
        due("and kept", x.stays(0, 1), 7);
        due("name 8 is none", x.stays(1, 0), 0);
        x = Desks.ofClasses(1);
        filled(x, 7);
        x.type(false, -1);
        filled(x, 7);
        x.keep(0, 1 << 0, 1 << 8);
        x.keep(0, 1 << 1, 1 << 7);
        due("names of one rule, classes of another", x.build(), OK);
        due("are not put together", x.stays(0, 0), 0);
        due("those of one rule are", x.stays(1, 0), 2);
    }

    // ---- marking ----

    private static void markingIsLeast() {
        ShrinkDesk x = Desks.ofClasses(2);
        filled(x, 0, STATIC, 1, 1);
        filled(x, 1, STATIC, 1, 0, NEW, 0, 0, CALL, 1, 2);
        filled(x, 2, STATIC, 1, 2);
        x.keep(0, 1 << 1, 0);
        due("methods that only reach each other", x.build(), OK);
        due("none of them stays", x.state(4), 0);
        due("the class does", x.renamed(1), 1);
        due("one that they make does not", x.renamed(0), BAD);
        x = Desks.ofClasses(1);
        filled(x, 0, TEST, 0, 0);
        x.type(false, -1);
        filled(x, 1, NEW, 0, 0, CALL, 0, 0);
        filled(x, 2, CALL, 0, 0);
        x.keep(0, 1 << 1, 1 << 2);
        due("made by what is not live", x.build(), OK);
        due("does not make its method live", x.stays(0, 0), 1);
        x.keep(0, 1 << 1, 1 << 1);
        due("made by what is live", x.build(), OK);
        due("does", x.stays(0, 0), 2);
    }

    private static void markingOfRoots() {
        ShrinkDesk x = Desks.ofInterfaces(1);
        x.type(true, -1);
        x.also(0);
        x.method(3, true);
        x.type(false, -1);
        x.method(4, true);
        filled(x, 5, TEST, 4, 0);
        x.type(false, 2);
        x.also(1);
        filled(x, 3);
        x.type(false, -1);
        x.keep(0, 1 << 3, 0);
        due("a class is a root", x.build(), OK);
        due("parent and interfaces stay", x.state(3), 4);
        due("another does not", x.renamed(4), BAD);
        due("no method", x.state(4), 0);
        x.keep(0, 1 << 2, 1 << 4);
        x.keep(0, 1 << 1, 1 << 3);
        due("abstract roots", x.build(), OK);
        due("are named, not live, in a class", x.stays(1, 0), 1);
        due("and in an interface", x.stays(0, 0), 1);
        due("nothing else is", x.state(4), 2);
        x.keep(0, 1 << 2, 1 << 5);
        due("a root with instructions", x.build(), OK);
        due("is live", x.stays(2, 0), 2);
        due("its class in an instruction is named", x.renamed(4), 4);
    }

    /** What made classes find is live only if they descend from the CALL's class. */
    private static void markingOfCalls() {
        ShrinkDesk x = Desks.ofClasses(1);
        filled(x, 0, TEST, 0, 0);
        x.type(false, 0);
        filled(x, 0, TEST, 0, 0);
        x.type(false, 1);
        filled(x, 0, TEST, 0, 0);
        x.type(false, -1);
        filled(x, 5, NEW, 0, 0, NEW, 2, 0, CALL, 1, 0);
        x.keep(0, 1 << 3, 1 << 5);
        due("CALL of class 1", x.build(), OK);
        due("what 0 finds: it does not descend from 1", x.stays(0, 0), 0);
        due("what 1 finds: it is not made, but named", x.stays(1, 0), 1);
        due("what 2 finds: it is made", x.stays(2, 0), 2);
        x.code(NEW, 1, 0);
        due("with 1 made", x.build(), OK);
        due("what 0 finds, with 1 made", x.stays(0, 0), 0);
        due("what 1 finds, with 1 made", x.stays(1, 0), 2);
        due("what 2 finds, with 1 made", x.stays(2, 0), 2);
    }

    private static void markingOfInstructions() {
        ShrinkDesk x = Desks.ofClasses(1);
        filled(x, 0, TEST, 1, 0);
        x.type(false, -1);
        x.type(false, -1);
        filled(x, 5, NEW, 0, 0);
        x.keep(0, 1 << 2, 1 << 5);
        due("NEW alone", x.build(), OK);
        due("makes no method live", x.stays(0, 0), 0);
        x = Desks.ofClasses(1);
        filled(x, 0, TEST, 1, 0);
        x.type(false, -1);
        x.type(false, -1);
        filled(x, 5, CALL, 0, 0);
        x.keep(0, 1 << 2, 1 << 5);
        due("a CALL where nothing is made", x.build(), OK);
        due("names what is found", x.stays(0, 0), 1);
        due("but not what stands in it", x.renamed(1), BAD);
        x = Desks.ofClasses(1);
        filled(x, 0, TEST, 0, 0);
        x.type(false, 0);
        filled(x, 0, TEST, 0, 0);
        x.type(false, -1);
        filled(x, 5, NEW, 1, 0, STATIC, 0, 0);
        x.keep(0, 1 << 2, 1 << 5);
        due("a STATIC where a child is made", x.build(), OK);
        due("what its class finds is live", x.stays(0, 0), 2);
        due("what the child finds is not", x.stays(1, 0), 0);
    }

    /** Each of these is found only after the one before, and stands before it. */
    private static void markingGoesOn() {
        ShrinkDesk x = Desks.ofClasses(2);
        filled(x, 0, TEST, 0, 0);
        filled(x, 1, CALL, 1, 0);
        filled(x, 2, NEW, 1, 0);
        filled(x, 3, STATIC, 1, 2);
        x.keep(0, 1 << 1, 1 << 1 | 1 << 3);
        due("marking goes on: build", x.build(), OK);
        due("marking goes on: live by a class made later", x.stays(0, 0), 2);
        due("marking goes on: named by that", x.renamed(0), 0);
        x = Desks.ofClasses(1);
        for (int n = 0; n < 9; n++) {
            filled(x, n, STATIC, 0, n == 0 ? 0 : n - 1);
        }
        filled(x, 9, STATIC, 0, 8);
        x.keep(0, 1, 1 << 9);
        due("marking goes on and on: build", x.build(), OK);
        due("marking goes on and on", x.state(4), 10);
    }

    // ---- inlining ----

    /** Class 0 with name 0 as told, class 1 with the root, which does the call on LINE 1. */
    private static ShrinkDesk caller(int op, int... callee) {
        ShrinkDesk x = Desks.ofClasses(1);
        filled(x, 0, callee);
        filled(x, 1);
        x.type(false, -1);
        filled(x, 5, NEW, 0, 0, op, 0, 0, OUT, 0, 9);
        x.keep(0, 1 << 1, 1 << 5);
        due("caller: build", x.build(), OK);
        return x;
    }

    private static void dueInlined(String what, boolean isInlined, int... callee) {
        for (int op = CALL; op <= STATIC; op++) {
            ShrinkDesk x = caller(op, callee);
            String told = what + ", op " + op;
            int more = isInlined ? callee.length / 3 : 0;
            due(told + ": op", x.line(1, 5, 1, 0), isInlined ? ENTER : op);
            due(told + ": class", x.line(1, 5, 1, 1), isInlined && op == STATIC ? -1 : 0);
            due(told + ": instructions", x.stays(2, 2), 3 + more);
            due(told + ": callee", x.stays(0, 0), isInlined ? 0 : 2);
            due(told + ": behind it", x.line(1, 5, 2 + more, 2), 9);
            for (int k = 0; k < more; k++) {
                due(told + ": op " + k, x.line(1, 5, 2 + k, 0), callee[3 * k]);
                due(told + ": method " + k, x.line(1, 5, 2 + k, 3), 0);
                due(told + ": LINE " + k, x.line(1, 5, 2 + k, 4), k);
                due(told + ": INLINED LINE " + k, x.line(1, 5, 2 + k, 5), 1);
            }
        }
    }

    private static void inlinedAtMostThree() {
        for (int count = 0; count <= 6; count++) {
            dueInlined(count + " OUTs", count <= 3, outs(count));
        }
        dueInlined("three FAILs", true, FAIL, 0, 0, FAIL, 0, 0, FAIL, 0, 0);
        dueInlined("four FAILs", false, FAIL, 0, 0, FAIL, 0, 0, FAIL, 0, 0, FAIL, 0, 0);
        dueInlined("both, three", true, OUT, 0, 1, FAIL, 0, 0, OUT, 0, 3);
        dueInlined("both, four", false, OUT, 0, 1, FAIL, 0, 0, OUT, 0, 3, OUT, 0, 4);
    }

    private static void inlinedOutAndFailAlone() {
        int[][] others = {{NEW, 0, 0}, {CALL, 0, 1}, {STATIC, 0, 1}, {TEST, 0, 0}};
        for (int[] other : others) {
            dueInlined("op " + other[0] + " alone", false, other);
            dueInlined("op " + other[0] + " last", false, OUT, 0, 1, OUT, 0, 2, other[0], other[1], other[2]);
            dueInlined("op " + other[0] + " first", false, other[0], other[1], other[2], OUT, 0, 1, FAIL, 0, 0);
        }
        dueInlined("OUT alone", true, OUT, 0, 1);
        dueInlined("FAIL alone", true, FAIL, 0, 0);
    }

    /** One that would be short by now was not when the calls were looked at. */
    private static void inlinedOnlyOnce() {
        ShrinkDesk x = Desks.ofClasses(1);
        filled(x, 0);
        filled(x, 1, STATIC, 0, 0);
        filled(x, 2, STATIC, 0, 1);
        dueRuns("a short one in a short one", x, 0, 2, DONE, 2);
        due("the inner one went", x.stays(0, 0), 0);
        due("the outer one stays", x.stays(1, 0), 2);
        due("it is called", x.line(0, 2, 0, 0), STATIC);
    }

    /**
     * Class 0 with a short name 0, its children 1, without one, and 2, with another; class 3 without
     * parent and with a third. The root makes some, and calls name 0 of class 0.
     */
    private static void dueCallOfMade(String what, boolean isInlined, int... made) {
        ShrinkDesk x = Desks.ofClasses(1);
        filled(x, 0, OUT, 0, 10);
        x.type(false, 0);
        x.type(false, 0);
        filled(x, 0, OUT, 0, 12);
        x.type(false, -1);
        filled(x, 0, OUT, 0, 13);
        filled(x, 5);
        for (int c : made) {
            x.code(NEW, c, 0);
        }
        x.code(CALL, 0, 0);
        x.keep(0, 1 << 3, 1 << 5);
        due(what + ": build", x.build(), OK);
        due(what, x.line(3, 5, made.length, 0), isInlined ? ENTER : CALL);
        int ending = made.length == 0 || made[made.length - 1] == 3 ? MISS : DONE;
        for (int which = 0; which < 2; which++) {
            due(what + ": run", x.run(which, 3, 5), ending);
        }
    }

    private static void inlinedCallOfMadeClasses() {
        dueCallOfMade("none made", false);
        dueCallOfMade("one made", true, 0);
        dueCallOfMade("one child made", true, 1);
        dueCallOfMade("another child made", true, 2);
        dueCallOfMade("two made, same method", true, 0, 1);
        dueCallOfMade("two made, two methods", false, 0, 2);
        dueCallOfMade("two children made, two methods", false, 2, 1);
        dueCallOfMade("three made, two methods", false, 0, 2, 1);
        dueCallOfMade("one made, one that does not descend", true, 3, 1);
        dueCallOfMade("just one that does not descend", false, 3);
    }

    private static void inlinedCallNotOfAbstract() {
        ShrinkDesk x = Desks.ofClasses(1);
        x.method(0, true);
        x.type(false, 0);
        filled(x, 0, OUT, 0, 1);
        x.type(false, -1);
        filled(x, 5, NEW, 0, 0, CALL, 0, 0);
        filled(x, 6, NEW, 1, 0, CALL, 0, 0);
        x.keep(0, 1 << 2, 1 << 5);
        due("abstract: build", x.build(), OK);
        due("abstract: not INLINED", x.line(2, 5, 1, 0), CALL);
        due("abstract: absent", x.run(1, 2, 5), ABSENT);
        x.keep(0, 1 << 2, 1 << 6);
        due("abstract and not: build", x.build(), OK);
        due("abstract and not: not INLINED", x.line(2, 6, 1, 0), CALL);
        due("abstract and not: done", x.run(1, 2, 6), DONE);
    }

    private static void enterNamesTheClassOfACall() {
        ShrinkDesk x = Desks.ofClasses(1);
        filled(x, 0, OUT, 0, 1);
        x.type(false, -1);
        filled(x, 5, STATIC, 0, 0);
        x.keep(0, 1 << 1, 1 << 5);
        due("ENTER of STATIC: build", x.build(), OK);
        due("ENTER of STATIC names no class", x.renamed(0), BAD);
        due("so one stays", x.state(3), 1);
        x = Desks.ofInterfaces(1);
        x.method(0, true);
        x.type(false, -1);
        x.also(0);
        filled(x, 0, OUT, 0, 1);
        x.type(false, -1);
        filled(x, 5, NEW, 1, 0, CALL, 0, 0);
        x.keep(0, 1 << 2, 1 << 5);
        due("ENTER of CALL: build", x.build(), OK);
        due("ENTER of CALL names just its class, not what it finds", x.stays(0, 0), 0);
        due("nor what was INLINED", x.stays(1, 0), 0);
        due("its class stays", x.renamed(0), 0);
        due("its class", x.line(2, 5, 1, 1), 0);
        due("all classes stay", x.state(3), 3);
    }

    private static void linesAreNumberedAnew() {
        ShrinkDesk x = Desks.ofClasses(1);
        filled(x, 0);
        filled(x, 1, OUT, 0, 1);
        filled(x, 2, STATIC, 0, 0, STATIC, 0, 1, OUT, 0, 2, STATIC, 0, 1, TEST, 0, 0, FAIL, 0, 0);
        dueRuns("lines", x, 0, 2, DONE, 7, 1, 2, 1);
        int[][] wants = {{ENTER, 2, 0, -1}, {ENTER, 2, 1, -1}, {OUT, 1, 0, 1}, {OUT, 2, 2, -1},
            {ENTER, 2, 3, -1}, {OUT, 1, 0, 3}, {TEST, 2, 4, -1}, {FAIL, 2, 5, -1}};
        for (int k = 0; k < wants.length; k++) {
            due("line " + k + ": op", x.line(0, 2, k, 0), wants[k][0]);
            for (int what = 3; what < 6; what++) {
                due("line " + k + ": " + what, x.line(0, 2, k, what), wants[k][what - 2]);
            }
        }
        due("no line 8", x.line(0, 2, 8, 0), BAD);
    }

    // ---- ENTER ----

    private static void enterMisses() {
        int[] held = {-1, 0, 1, 2, 3};
        int[] endings = {MISS, MISS, DONE, DONE, MISS};
        for (int k = 0; k < held.length; k++) {
            for (int op = CALL; op <= STATIC; op++) {
                ShrinkDesk x = Desks.ofClasses(1);
                x.type(false, 0);
                filled(x, 0, OUT, 0, 7);
                x.type(false, 1);
                x.type(false, -1);
                // Class 2 is made here, but left out; then come class 3 or none, and what is held.
                filled(x, 5, TEST, 0, 0, NEW, 2, 0);
                if (held[k] >= 0) {
                    x.code(NEW, held[k], 0);
                }
                x.code(op, 1, 0);
                int steps = held[k] < 0 ? 2 : 3;
                boolean isDone = op == STATIC || endings[k] == DONE;
                String what = "ENTER of op " + op + " with " + held[k] + " held";
                dueRuns(what, x, 3, 5, isDone ? DONE : MISS, steps + (isDone ? 1 : 0),
                    isDone ? new int[] {7} : NOTHING);
                due(what + ": INLINED", x.line(3, 5, held[k] < 0 ? 2 : 3, 0), ENTER);
            }
        }
    }

    private static void testLeavesEnterOut() {
        for (int count = 0; count <= 3; count++) {
            ShrinkDesk x = Desks.ofClasses(1);
            filled(x, 0, outs(count));
            filled(x, 1, TEST, 0, 0, STATIC, 0, 0, OUT, 0, 1);
            String what = "ENTER with " + count + " ";
            dueRuns(what + "is left out", x, 0, 1, DONE, 2, 1);
            x = Desks.ofClasses(1);
            filled(x, 0, outs(count));
            filled(x, 1, OUT, 0, 1, TEST, 0, 0, STATIC, 0, 0);
            dueRuns(what + "is left out as the last one", x, 0, 1, DONE, 2, 1);
            x = Desks.ofClasses(1);
            filled(x, 0, outs(count));
            filled(x, 1, TEST, 0, 0, STATIC, 0, 0, STATIC, 0, 0);
            int[] ints = new int[count];
            for (int k = 0; k < count; k++) {
                ints[k] = 50 + k;
            }
            dueRuns(what + "is left out, the next is not", x, 0, 1, DONE, 2 + count, ints);
            x = Desks.ofClasses(1);
            filled(x, 0, outs(count));
            filled(x, 1, NEW, 0, 0, TEST, 0, 0, CALL, 0, 0);
            dueRuns(what + "is not left out", x, 0, 1, DONE, 3 + count, ints);
            x = Desks.ofClasses(1);
            filled(x, 0, outs(count));
            filled(x, 1, TEST, 0, 0, TEST, 0, 0, CALL, 0, 0, OUT, 0, 1);
            x.code(NEW, 0, 0);
            dueRuns(what + "stands behind a TEST that is left out", x, 0, 1, MISS, 2);
        }
    }

    // ---- new names ----

    private static void dueNumbers(String what, ShrinkDesk x, int... wants) {
        due(what + ": build", x.build(), OK);
        for (int c = 0; c < wants.length; c++) {
            due(what + ": class " + c, x.renamed(c), wants[c]);
        }
    }

    /** All six stay, by the TESTs of class 5. */
    private static ShrinkDesk sixThatStay() {
        ShrinkDesk x = Desks.ofClasses(6);
        filled(x, 0, TEST, 0, 0, TEST, 1, 0, TEST, 2, 0, TEST, 3, 0, TEST, 4, 0);
        x.keep(0, 1 << 5, 1);
        return x;
    }

    private static void newNumbersOfClasses() {
        dueNumbers("one kept", sixThatStay(), 0, 1, 2, 3, 4, 5);
        for (int kind = 0; kind < 2; kind++) {
            ShrinkDesk x = Desks.ofClasses(10);
            filled(x, 0, TEST, 3, 0, TEST, 5, 0, TEST, 7, 0, TEST, 8, 0);
            x.keep(0, 1 << 9, 1);
            dueNumbers("the least", x, BAD, BAD, BAD, 0, BAD, 1, BAD, 2, 3, 9);
            x.keep(kind, 1 << 5, 0);
            dueNumbers("one kept in between", x, BAD, BAD, BAD, 0, BAD, 5, BAD, 1, 2, 9);
            x.keep(kind, 1 << 1, 0);
            if (kind == 0) {
                dueNumbers("a root that has a low number", x, BAD, 1, BAD, 0, BAD, 5, BAD, 2, 3, 9);
            } else {
                dueNumbers("kept, but gone", x, BAD, BAD, BAD, 0, BAD, 5, BAD, 1, 2, 9);
            }
        }
    }

    private static void newNumbersOfKeptThatGo() {
        ShrinkDesk x = Desks.ofClasses(3);
        filled(x, 0, TEST, 1, 0);
        x.keep(0, 1 << 2, 1);
        x.keep(1, 1 << 0, 0);
        dueNumbers("the number of a kept one that goes is free", x, BAD, 0, 2);
        x.keep(0, 1 << 0, 0);
        dueNumbers("it is not if that one stays", x, 0, 1, 2);
    }

    private static void dueNames(String what, ShrinkDesk x, int... wants) {
        due(what + ": build", x.build(), OK);
        for (int m = 0; m < wants.length; m++) {
            due(what + ": method " + m, x.stays(m, 1), wants[m]);
        }
    }

    /** Names 8 and 7 in unlike interfaces 0 and 1; class 2 has both, 3 calls all. */
    private static void familyByAClassThatStays() {
        ShrinkDesk x = Desks.ofInterfaces(1);
        x.method(7, true);
        x.method(8, true);
        x.type(true, -1);
        x.method(8, true);
        x.type(false, -1);
        x.also(0);
        x.also(1);
        x.type(false, -1);
        filled(x, 5, CALL, 0, 7, CALL, 0, 8, CALL, 1, 8);
        x.keep(0, 1 << 3, 1 << 5);
        dueNames("two families of one name", x, 0, 1, 0, 5);
        x.keep(0, 1 << 2, 0);
        dueNames("one family by a class that stays", x, 0, 1, 1, 5);
        ShrinkDesk y = Desks.ofClasses(1);
        filled(y, 6, TEST, 0, 0);
        y.type(false, 0);
        filled(y, 7, TEST, 0, 0);
        filled(y, 6, TEST, 0, 0);
        y.type(false, -1);
        filled(y, 5, NEW, 1, 0, CALL, 1, 7, CALL, 0, 6, NEW, 0, 0, CALL, 0, 6);
        y.keep(0, 1 << 2, 1 << 5);
        dueNames("one family of child and parent", y, 0, 1, 0, 5);
        y = Desks.ofClasses(1);
        filled(y, 6, TEST, 0, 0);
        y.type(false, 0);
        filled(y, 7, TEST, 0, 0);
        y.type(false, 0);
        filled(y, 7, TEST, 0, 0);
        y.type(false, -1);
        filled(y, 5, STATIC, 0, 6, STATIC, 1, 7, STATIC, 2, 7);
        y.keep(0, 1 << 3, 1 << 5);
        y.keep(1, 1 << 2, 1 << 7);
        dueNames("two families of sisters", y, 0, 1, 7, 5);
    }

    /** 0 and 2 are one by class 3, 1 and 2 by class 4; no class has both 0 and 1. */
    private static void familyByOthers() {
        ShrinkDesk x = Desks.ofInterfaces(1);
        x.method(8, true);
        x.type(true, -1);
        x.method(8, true);
        x.type(true, -1);
        x.method(8, true);
        x.type(false, -1);
        x.also(0);
        x.also(2);
        x.type(false, -1);
        x.also(1);
        x.also(2);
        x.type(false, -1);
        filled(x, 5, CALL, 0, 8, CALL, 1, 8, CALL, 2, 8);
        x.keep(0, 1 << 5 | 1 << 3, 1 << 5);
        x.keep(1, 1 << 1, 1 << 8);
        dueNames("two of them are one", x, 0, 8, 0, 5);
        x.keep(0, 1 << 4, 0);
        dueNames("all are one", x, 8, 8, 8, 5);
        x = Desks.ofInterfaces(1);
        x.method(8, true);
        x.type(true, -1);
        x.method(8, true);
        x.type(true, -1);
        x.method(8, true);
        x.type(false, -1);
        x.also(0);
        x.also(2);
        x.type(false, -1);
        x.also(1);
        x.also(2);
        x.type(false, -1);
        filled(x, 5, CALL, 0, 8, CALL, 1, 8);
        x.keep(0, 1 << 5 | 1 << 3 | 1 << 4, 1 << 5);
        x.keep(1, 1 << 1, 1 << 8);
        dueNames("not by one that goes", x, 0, 8, BAD, 5);
    }

    /** Families of 6 and 7; a class that stays, or none, has both in sight. */
    private static void sightOfFamilies() {
        ShrinkDesk x = Desks.ofInterfaces(1);
        x.method(6, true);
        x.type(true, -1);
        x.method(7, true);
        x.type(true, -1);
        x.also(0);
        x.also(1);
        x.type(false, -1);
        filled(x, 5, CALL, 0, 6, CALL, 1, 7);
        x.keep(0, 1 << 3, 1 << 5);
        dueNames("no class has both in sight", x, 0, 0, 5);
        x.keep(0, 1 << 2, 0);
        dueNames("a class has both in sight", x, 0, 1, 5);
        x.keep(1, 1 << 1, 1 << 7);
        dueNames("one of them is kept", x, 0, 7, 5);
        x = Desks.ofClasses(1);
        filled(x, 6, TEST, 0, 0);
        x.type(false, 0);
        filled(x, 7, TEST, 0, 0);
        x.type(false, -1);
        filled(x, 8, TEST, 0, 0);
        filled(x, 0, STATIC, 0, 6, STATIC, 1, 7, STATIC, 2, 8);
        x.keep(0, 1 << 2, 1);
        dueNames("the parent's is in sight of the child, others' are not", x, 0, 1, 1, 0);
    }

    private static void familyKeepsItsName() {
        for (int kept = 0; kept < 3; kept++) {
            ShrinkDesk x = Desks.ofClasses(1);
            filled(x, 6, TEST, 0, 0);
            filled(x, 7, TEST, 0, 0);
            x.type(false, 0);
            filled(x, 6, TEST, 0, 0);
            x.type(false, 1);
            filled(x, 6, TEST, 0, 0);
            x.type(false, -1);
            filled(x, 5, STATIC, 0, 6, STATIC, 0, 7, STATIC, 1, 6, STATIC, 2, 6);
            x.keep(0, 1 << 3, 1 << 5);
            dueNames("none is kept", x, 0, 1, 0, 0, 5);
            x.keep(1, 1 << kept, 1 << 6);
            dueNames("kept by class " + kept, x, 6, 0, 6, 6, 5);
            x.keep(1, 1 << 0, 1 << 0);
            dueNames("a name that is not there", x, 6, 0, 6, 6, 5);
        }
    }

    private static void familyOfAKeptOneThatGoes() {
        ShrinkDesk x = Desks.ofClasses(1);
        filled(x, 6, TEST, 0, 0);
        x.type(false, 0);
        filled(x, 6, TEST, 0, 0);
        x.type(false, -1);
        filled(x, 5, STATIC, 0, 6, TEST, 1, 0);
        x.keep(0, 1 << 2, 1 << 5);
        x.keep(1, 1 << 1, 1 << 6);
        dueNames("a kept one that goes is of no family", x, 0, BAD, 5);
        x.keep(0, 1 << 1, 1 << 6);
        dueNames("one that stays is", x, 6, 6, 5);
    }

    private static void familiesInOrder() {
        ShrinkDesk x = Desks.ofClasses(1);
        for (int n = 9; n >= 0; n--) {
            filled(x, n, TEST, 0, 0);
        }
        x.type(false, 0);
        filled(x, 0, STATIC, 0, 9, STATIC, 0, 8, STATIC, 0, 5, STATIC, 0, 4, STATIC, 0, 3, STATIC, 0, 0);
        x.keep(0, 1 << 1, 1 << 0);
        // Names 9, 8, 5, 4, 3 are left for families; 0 is kept by the method of the child.
        dueNames("in the order of their least methods", x, 1, 2, BAD, BAD, 3, 4, 5, BAD, BAD, 0, 0);
        x.keep(1, 1 << 0, 1 << 3 | 1 << 2);
        dueNames("a kept name is passed over", x, 1, 2, BAD, BAD, 4, 5, 3, BAD, BAD, 0, 0);
        x = Desks.ofClasses(1);
        for (int n = 0; n < 10; n++) {
            filled(x, n, TEST, 0, 0);
        }
        x.type(false, -1);
        filled(x, 0, STATIC, 0, 9);
        x.keep(0, 1 << 0, 511);
        x.keep(0, 1 << 1, 1);
        dueNames("nine kept, the last name is left", x, 0, 1, 2, 3, 4, 5, 6, 7, 8, 9, 0);
    }

    /** Names go to 9 as told, new ones go on where all of these are in sight. */
    private static void newNamesAboveNine() {
        for (int last = 8; last < 10; last++) {
            ShrinkDesk x = Desks.ofInterfaces(1);
            x.method(9, true);
            x.type(true, -1);
            x.method(0, true);
            x.type(false, -1);
            x.also(1);
            for (int n = 1; n <= last; n++) {
                x.method(n, true);
            }
            x.type(false, -1);
            x.also(0);
            x.also(1);
            filled(x, 5, CALL, 0, 9, CALL, 1, 0);
            x.keep(0, 1 << 2, -1);
            x.keep(0, 1 << 3, 1 << 5);
            // Class 3 sees 0 and 5, class 2 sees 1 to the last one.
            dueNames("up to " + last + " in sight", x, 0, last + 1);
            due("the call has the name, too", x.line(3, 5, 1, 2), last + 1);
        }
    }
}
