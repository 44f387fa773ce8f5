/** Each promise of the document with answers worked out by hand: ordinary, at the edges, wrong. */
public final class PromiseTest extends Checks {
    private PromiseTest() { }

    public static void main(String[] args) {
        promise1NewObject();
        promise2Type();
        promise3Also();
        promise4Method();
        promise5Code();
        promise5CodeGoesToTheLatestMethod();
        promise6Keep();
        promise7Clear();
        promise8BuildFaults();
        promise8FindsByChainThenLeastAncestor();
        promise8MarkingByMadeClasses();
        promise8Inlining();
        promise8CallIsInlinedOnlyWithOneTarget();
        promise9Run();
        promise9Held();
        promise9Endings();
        promise9Long();
        promise9Deep();
        promise9BuiltByNewNames();
        promise9TestLeavesEnterOut();
        promise10Place();
        promise11Renamed();
        promise12Stays();
        promise12Families();
        promise12FamilyByOthers();
        promise12NamesAboveNine();
        promise13Line();
        promise14State();
        promise15Out();
        promise16Trace();
        promise16TraceOfEntered();
        promise17OrderAndLimits();
        whatWasBuiltIsNoMore();
        finish("PromiseTest");
    }

    private static void promise1NewObject() {
        ShrinkDesk x = new ShrinkDesk();
        due("1 place", x.place(), -1);
        due("1 outs", x.state(0), 0);
        due("1 steps", x.state(1), 0);
        due("1 at work", x.state(2), 0);
        due("1 classes stay", x.state(3), BAD);
        due("1 methods stay", x.state(4), BAD);
        due("1 out", x.out(0), 0);
        due("1 trace", x.trace(0, 0), BAD);
        due("1 renamed", x.renamed(0), BAD);
        due("1 stays", x.stays(0, 0), BAD);
        due("1 line", x.line(0, 0, 0, 0), BAD);
        due("1 run before", x.run(0, 0, 0), BAD);
        due("1 run built", x.run(1, 0, 0), BAD);
        due("1 no class to clear", x.clear(), 0);
        due("1 nothing can be built", x.build(), OK);
        due("1 no class stays", x.state(3), 0);
        due("1 no method stays", x.state(4), 0);
    }

    private static void promise2Type() {
        ShrinkDesk x = new ShrinkDesk();
        due("2 parent of none", x.type(false, 0), BAD);
        due("2 class", x.type(false, -1), 0);
        due("2 interface", x.type(true, -1), 1);
        due("2 child", x.type(false, 0), 2);
        due("2 itself as parent", x.type(false, 3), BAD);
        due("2 interface as parent", x.type(false, 1), BAD);
        due("2 interface with a parent", x.type(true, 0), BAD);
        due("2 parent -2", x.type(false, -2), BAD);
        due("2 least parent", x.type(false, LOW), BAD);
        due("2 greatest parent", x.type(false, HIGH), BAD);
        for (int c = 3; c < 10; c++) {
            due("2 class " + c, x.type(c % 2 == 0, -1), c);
        }
        due("2 eleventh", x.type(false, -1), FULL);
        due("2 eleventh interface", x.type(true, -1), FULL);
        due("2 eleventh with the latest as parent", x.type(false, 9), FULL);
        due("2 none of these came", x.clear(), 10);
    }

    private static void promise3Also() {
        ShrinkDesk x = new ShrinkDesk();
        due("3 without class", x.also(0), false);
        x.type(true, -1);
        due("3 itself", x.also(0), false);
        x.type(true, -1);
        due("3 interface of an interface", x.also(0), true);
        due("3 twice", x.also(0), false);
        x.type(true, -1);
        x.type(false, -1);
        due("3 -1", x.also(-1), false);
        due("3 least", x.also(LOW), false);
        due("3 greatest", x.also(HIGH), false);
        due("3 itself, a class", x.also(3), false);
        due("3 first", x.also(1), true);
        due("3 an ancestor by another", x.also(0), true);
        due("3 a third", x.also(2), false);
        x.type(false, 3);
        due("3 a class that is none", x.also(3), false);
        due("3 one that its parent has", x.also(1), true);
        due("3 a later one", x.also(5), false);
    }

    private static void promise4Method() {
        ShrinkDesk x = new ShrinkDesk();
        due("4 without class", x.method(0, true), BAD);
        x.type(true, -1);
        due("4 filled in an interface", x.method(0, false), BAD);
        due("4 abstract in an interface", x.method(0, true), 0);
        due("4 the same name", x.method(0, true), BAD);
        due("4 name 10", x.method(10, true), BAD);
        due("4 name -1", x.method(-1, true), BAD);
        due("4 least name", x.method(LOW, true), BAD);
        due("4 greatest name", x.method(HIGH, true), BAD);
        x.type(false, -1);
        due("4 name of another class", x.method(0, false), 1);
        due("4 abstract in a class", x.method(9, true), 2);
        due("4 the same name, abstract", x.method(9, false), BAD);
        x.type(false, 1);
        due("4 name of the parent", x.method(9, false), 3);
    }

    private static void promise5Code() {
        ShrinkDesk x = new ShrinkDesk();
        due("5 without method", x.code(OUT, 0, 0), false);
        x.type(false, -1);
        x.method(0, true);
        due("5 abstract", x.code(FAIL, 0, 0), false);
        x.method(1, false);
        due("5 op -1", x.code(-1, 0, 0), false);
        due("5 op 6", x.code(ENTER, 0, 0), false);
        due("5 least op", x.code(LOW, 0, 0), false);
        for (int op = NEW; op <= TEST; op++) {
            due("5 class -1 of op " + op, x.code(op, -1, 0), false);
            due("5 class 10 of op " + op, x.code(op, 10, 0), false);
        }
        for (int op = CALL; op <= STATIC; op++) {
            due("5 name -1 of op " + op, x.code(op, 0, -1), false);
            due("5 name 10 of op " + op, x.code(op, 0, 10), false);
        }
        due("5 OUT looks at no class", x.code(OUT, LOW, HIGH), true);
        due("5 FAIL looks at nothing", x.code(FAIL, HIGH, LOW), true);
        due("5 NEW looks at no name", x.code(NEW, 9, -5), true);
        due("5 TEST looks at no name", x.code(TEST, 9, 77), true);
        due("5 CALL at the edge", x.code(CALL, 9, 9), true);
        due("5 STATIC at the edge", x.code(STATIC, 9, 9), true);
        due("5 a seventh", x.code(OUT, 0, 0), false);
    }

    private static void promise5CodeGoesToTheLatestMethod() {
        ShrinkDesk x = new ShrinkDesk();
        x.type(false, -1);
        filled(x, 0, OUT, 0, 1);
        x.type(false, -1);
        due("5 the latest method is of an earlier class", x.code(OUT, 0, 2), true);
        due("5 it is run", x.run(0, 0, 0), ShrinkDesk.DONE);
        dueOuts("5 both lines", x, 1, 2);
    }

    private static void promise6Keep() {
        ShrinkDesk x = new ShrinkDesk();
        due("6 kind -1", x.keep(-1, 1, 1), false);
        due("6 kind 2", x.keep(2, 1, 1), false);
        x.type(false, -1);
        filled(x, 3);
        filled(x, 4);
        due("6 before the class it tells of", x.keep(0, 2, 1), true);
        x.type(false, -1);
        filled(x, 0);
        filled(x, 3);
        due("6 kept, no root", x.keep(1, 1, 8), true);
        due("6 only bits 0..9", x.keep(0, ~1023, -1), true);
        due("6 build", x.build(), OK);
        due("6 kept alone does not stay", x.renamed(0), BAD);
        due("6 nor its method", x.stays(0, 0), 0);
        due("6 a root does", x.renamed(1), 1);
        due("6 and its method", x.stays(2, 0), 2);
        due("6 not the one of another name", x.stays(3, 0), 0);
        due("6 each rule has its own names", x.keep(0, 1, 16), true);
        due("6 build with it", x.build(), OK);
        due("6 name 3 is no root", x.stays(0, 0), 0);
        due("6 name 4 is one", x.stays(1, 0), 2);
        due("6 a fifth", x.keep(0, 3, 3), false);
    }

    private static void promise7Clear() {
        ShrinkDesk x = new ShrinkDesk();
        x.type(true, -1);
        x.method(1, true);
        x.type(false, -1);
        x.also(0);
        filled(x, 0, OUT, 0, 5, FAIL, 0, 0);
        for (int k = 0; k < 4; k++) {
            x.keep(0, 2, 1);
        }
        x.build();
        x.run(0, 1, 0);
        due("7 classes there were", x.clear(), 2);
        due("7 none then", x.clear(), 0);
        due("7 no method", x.code(OUT, 0, 0), false);
        due("7 no class", x.run(0, 1, 0), BAD);
        dueOuts("7 the latest run is still told", x, 5);
        dueTrace("7 the latest run", x, 1, 1);
        due("7 a class again", x.type(false, -1), 0);
        due("7 it is no interface", x.type(false, 0), 1);
        due("7 it has none", x.also(0), false);
        due("7 a method again", x.method(1, false), 0);
        due("7 build", x.build(), OK);
        due("7 the rules went", x.state(3), 0);
        due("7 a rule again", x.keep(0, 1, 0), true);
    }

    private static void promise8BuildFaults() {
        ShrinkDesk x = new ShrinkDesk();
        x.type(true, -1);
        x.method(0, true);
        x.type(false, -1);
        x.also(0);
        x.method(1, true);
        filled(x, 2, NEW, 1, 0, CALL, 0, 0, CALL, 1, 0, CALL, 1, 1, STATIC, 1, 2, TEST, 0, 0);
        due("8 CALL of what is abstract is right", x.build(), OK);
        filled(x, 3, OUT, 7, 0, STATIC, 1, 0);
        due("8 STATIC of an interface's", x.build(), ShrinkDesk.NOMETHOD);
        due("8 place", x.place(), 8 * 3 + 1);
        x.clear();
        x.type(true, -1);
        x.type(false, -1);
        x.method(1, true);
        filled(x, 0, FAIL, 9, 9, NEW, 0, 0, NEW, 2, 0);
        due("8 NEW of an interface, before the next", x.build(), ShrinkDesk.NOTMADE);
        due("8 its place", x.place(), 8 + 1);
        dueFault(NEW, 2, 0, ShrinkDesk.NOCLASS);
        dueFault(CALL, 2, 0, ShrinkDesk.NOCLASS);
        dueFault(STATIC, 2, 0, ShrinkDesk.NOCLASS);
        dueFault(TEST, 2, 0, ShrinkDesk.NOCLASS);
        dueFault(NEW, 0, 0, ShrinkDesk.NOTMADE);
        dueFault(CALL, 1, 2, ShrinkDesk.NOMETHOD);
        dueFault(STATIC, 1, 2, ShrinkDesk.NOMETHOD);
        dueFault(STATIC, 1, 1, ShrinkDesk.NOMETHOD);
        dueFault(CALL, 1, 1, OK);
        dueFault(TEST, 0, 0, OK);
        dueFault(OUT, 9, 9, OK);
        dueFault(FAIL, 9, 9, OK);
    }

    /** An instruction in a program with interface 0 and class 1, this with names 0 and 1. */
    private static void dueFault(int op, int c, int n, int want) {
        ShrinkDesk x = new ShrinkDesk();
        x.type(true, -1);
        x.type(false, -1);
        x.method(1, true);
        filled(x, 0, OUT, 0, 0, OUT, 0, 0, op, c, n);
        String what = "8 fault of " + op + " " + c + " " + n;
        due(what, x.build(), want);
        due(what + ": place", x.place(), want == OK ? -1 : 8 + 2);
        due(what + ": built", x.state(3), want == OK ? 0 : BAD);
        due(what + ": run", x.run(0, 1, 0) == BAD, want != OK);
    }

    private static void promise8FindsByChainThenLeastAncestor() {
        ShrinkDesk x = new ShrinkDesk();
        x.type(true, -1);
        x.method(0, true);
        x.type(true, -1);
        x.method(0, true);
        x.method(1, true);
        x.type(false, -1);
        filled(x, 1, OUT, 0, 1);
        x.type(false, 2);
        x.also(1);
        x.also(0);
        x.type(false, 3);
        filled(x, 9, CALL, 4, 0, CALL, 4, 1);
        x.keep(0, set(4), set(9));
        due("8 build", x.build(), OK);
        due("8 the least of the ancestors is named", x.stays(0, 0), 1);
        due("8 a greater one is not", x.stays(1, 0), 0);
        due("8 the parent's is before an interface's", x.stays(2, 0), 0);
        due("8 and is named, not live", x.stays(3, 0), 1);
        due("8 all ancestors stay", x.state(3), 5);
    }

    private static void promise8MarkingByMadeClasses() {
        ShrinkDesk x = new ShrinkDesk();
        x.type(false, -1);
        filled(x, 0, TEST, 0, 0);
        filled(x, 1, TEST, 0, 0);
        x.type(false, 0);
        filled(x, 0, NEW, 3, 0);
        x.type(false, 0);
        filled(x, 0, TEST, 0, 0);
        x.type(false, 0);
        filled(x, 1, TEST, 4, 0);
        x.type(false, -1);
        x.type(false, -1);
        filled(x, 5, CALL, 0, 0, CALL, 0, 1, NEW, 1, 0);
        x.keep(0, set(5), set(5));
        due("8 build", x.build(), OK);
        due("8 live by a class that a later method makes", x.stays(0, 0), 2);
        due("8 live by a made class that has none of its own", x.stays(1, 0), 2);
        due("8 live by its own made class", x.stays(2, 0), 2);
        due("8 gone, its class is not made", x.stays(3, 0), 0);
        due("8 live at last", x.stays(4, 0), 2);
        due("8 the class of one that is never made", x.renamed(2), BAD);
        due("8 the class of a TEST", x.renamed(4), 3);
        due("8 the root", x.renamed(5), 5);
        due("8 classes", x.state(3), 5);
        due("8 methods", x.state(4), 5);
    }

    private static void promise8Inlining() {
        ShrinkDesk x = new ShrinkDesk();
        x.type(false, -1);
        filled(x, 0);
        filled(x, 1, OUT, 0, 1, FAIL, 0, 0, OUT, 0, 3);
        filled(x, 2, OUT, 0, 1, OUT, 0, 2, OUT, 0, 3, OUT, 0, 4);
        filled(x, 3, TEST, 0, 0);
        x.type(false, -1);
        filled(x, 0, STATIC, 0, 0, STATIC, 0, 1, STATIC, 0, 2, STATIC, 0, 3);
        filled(x, 1, STATIC, 0, 1);
        x.keep(0, set(1), set(0));
        due("8 build", x.build(), OK);
        due("8 empty one is inlined", x.stays(0, 0), 0);
        due("8 three are inlined", x.stays(1, 0), 0);
        due("8 four are not", x.stays(2, 0), 2);
        due("8 TEST is not", x.stays(3, 0), 2);
        due("8 not live, so gone", x.stays(5, 0), 0);
        due("8 lines", x.stays(4, 2), 7);
        x.clear();
        x.type(false, -1);
        filled(x, 0, OUT, 0, 7);
        x.type(false, -1);
        filled(x, 0, STATIC, 0, 0);
        x.keep(0, set(1), set(0));
        due("8 build of STATIC alone", x.build(), OK);
        due("8 ENTER of STATIC names no class", x.renamed(0), BAD);
        x.keep(0, set(0), set(0));
        due("8 build with the target as root", x.build(), OK);
        due("8 a root that was inlined stays", x.stays(0, 0), 2);
        due("8 it was inlined all the same", x.line(1, 0, 0, 0), ENTER);
    }

    private static void promise8CallIsInlinedOnlyWithOneTarget() {
        ShrinkDesk x = callProgram();
        x.keep(0, set(3), set(0));
        due("8 one made", x.build(), OK);
        due("8 one made class: inlined", x.line(3, 0, 1, 0), ENTER);
        due("8 its class stays", x.line(3, 0, 1, 1), 0);
        due("8 the target went", x.stays(1, 0), 0);
        due("8 what c finds went", x.stays(0, 0), 0);
        x.keep(0, set(3), set(1));
        due("8 two made", x.build(), OK);
        due("8 two targets: not inlined", x.line(3, 0, 1, 0), CALL);
        due("8 what c finds is named", x.stays(0, 0), 1);
        due("8 the first is live", x.stays(1, 0), 2);
        due("8 the second is live", x.stays(2, 0), 2);
        x = callProgram();
        x.keep(0, set(3), set(2));
        due("8 none made", x.build(), OK);
        due("8 no target: not inlined", x.line(3, 2, 0, 0), CALL);
        due("8 named only", x.stays(0, 0), 1);
        due("8 as one without instructions", x.stays(0, 2), 0);
    }

    /** Class 0, its children 1 and 2 with short methods of one name, and users in class 3. */
    private static ShrinkDesk callProgram() {
        ShrinkDesk x = new ShrinkDesk();
        x.type(false, -1);
        filled(x, 0, OUT, 0, 10);
        x.type(false, 0);
        filled(x, 0, OUT, 0, 11);
        x.type(false, 0);
        filled(x, 0, OUT, 0, 12);
        x.type(false, -1);
        filled(x, 0, NEW, 1, 0, CALL, 0, 0);
        filled(x, 1, NEW, 2, 0, CALL, 0, 0);
        filled(x, 2, CALL, 0, 0);
        return x;
    }

    private static void promise9Run() {
        ShrinkDesk x = new ShrinkDesk();
        x.type(true, -1);
        x.method(0, true);
        x.type(false, -1);
        x.also(0);
        filled(x, 1, OUT, 0, 4, FAIL, 0, 0);
        x.type(false, 1);
        due("9 without build", x.run(0, 2, 1), ShrinkDesk.FAILED);
        due("9 nothing built", x.run(1, 2, 1), BAD);
        due("9 finds nothing", x.run(0, 2, 2), BAD);
        due("9 finds what is abstract", x.run(0, 2, 0), BAD);
        due("9 class -1", x.run(0, -1, 1), BAD);
        due("9 class 3", x.run(0, 3, 1), BAD);
        due("9 greatest class", x.run(0, HIGH, 1), BAD);
        due("9 name -1", x.run(0, 2, -1), BAD);
        due("9 name 10", x.run(0, 2, 10), BAD);
        due("9 which 2", x.run(2, 2, 1), BAD);
        due("9 which -1", x.run(-1, 2, 1), BAD);
        dueOuts("9 nothing changed by those", x, 4);
        dueTrace("9 nothing changed by those", x, 1, 1);
        filled(x, 3, STATIC, 2, 9);
        due("9 a fault elsewhere", x.run(0, 2, 1), BAD);
        due("9 steps of the latest that ran", x.state(1), 2);
        due("9 no build was asked", x.place(), -1);
    }

    private static void promise9Held() {
        ShrinkDesk x = new ShrinkDesk();
        x.type(true, -1);
        x.method(0, true);
        x.type(false, -1);
        x.also(0);
        filled(x, 0, TEST, 0, 0, OUT, 0, 1, NEW, 2, 0, TEST, 1, 0, OUT, 0, 2);
        x.type(false, -1);
        filled(x, 0, OUT, 0, 9);
        x.type(false, -1);
        filled(x, 0, TEST, 1, 0, OUT, 0, 3, NEW, 1, 0, CALL, 0, 0, TEST, 1, 0, OUT, 0, 4);
        filled(x, 1, STATIC, 3, 0, TEST, 1, 0, OUT, 0, 5, TEST, 1, 0);
        for (int which = 0; which < 2; which++) {
            due("9 held, done", x.run(which, 3, 1), ShrinkDesk.DONE);
            dueOuts("9 held comes along, and is as before behind a call", x, 1, 4);
            due("9 what is left out is no step", x.state(1), 12);
            x.keep(0, set(3), set(1));
            x.build();
        }
    }

    private static void promise9Endings() {
        ShrinkDesk x = new ShrinkDesk();
        x.type(true, -1);
        x.method(0, true);
        x.type(false, -1);
        x.also(0);
        filled(x, 1, CALL, 0, 0);
        x.type(false, -1);
        filled(x, 0, CALL, 0, 0);
        filled(x, 1, NEW, 2, 0, CALL, 0, 0);
        filled(x, 2, NEW, 1, 0, CALL, 0, 0);
        filled(x, 3, NEW, 1, 0, TEST, 0, 0, FAIL, 0, 0);
        filled(x, 4);
        x.keep(0, set(2), 31);
        x.build();
        for (int which = 0; which < 2; which++) {
            due("9 nothing held", x.run(which, 2, 0), ShrinkDesk.MISS);
            dueTrace("9 nothing held", x, 2, 0);
            due("9 another held", x.run(which, 2, 1), ShrinkDesk.MISS);
            dueTrace("9 another held", x, 3, 1);
            due("9 abstract", x.run(which, 2, 2), ShrinkDesk.ABSENT);
            dueTrace("9 abstract", x, 4, 1);
            due("9 the ending one is a step", x.state(1), 2);
            due("9 failed", x.run(which, 2, 3), ShrinkDesk.FAILED);
            dueTrace("9 failed", x, 5, 2);
            due("9 empty", x.run(which, 2, 4), ShrinkDesk.DONE);
            due("9 no step", x.state(1), 0);
            dueTrace("9 empty", x);
        }
    }

    private static void promise9Long() {
        int[] none = {};
        int[] beyond = {8, 3};
        dueAtBound("an empty one", ShrinkDesk.DONE, none, STATIC, 0, 5);
        dueAtBound("behind an empty one", ShrinkDesk.LONG, beyond, STATIC, 0, 5, OUT, 0, 1);
        dueAtBound("the last one left out", ShrinkDesk.DONE, none, TEST, 0, 0, OUT, 0, 1);
        dueAtBound("behind one left out", ShrinkDesk.LONG, new int[] {8, 4},
            TEST, 0, 0, STATIC, 0, 6, FAIL, 0, 0);
        dueAtBound("in a short one", ShrinkDesk.LONG, new int[] {6, 0, 8, 2}, STATIC, 0, 6);
        dueAtBound("in a longer one", ShrinkDesk.LONG, new int[] {2, 0, 8, 2}, STATIC, 0, 2);
        dueAtBound("a miss", ShrinkDesk.MISS, new int[] {8, 2}, CALL, 0, 7);
        dueAtBound("a failure", ShrinkDesk.FAILED, new int[] {8, 2}, FAIL, 0, 0);
        dueAtBound("a failure too late", ShrinkDesk.LONG, beyond, OUT, 0, 1, FAIL, 0, 0);
    }

    /** The instructions come behind 199 steps, on LINE 2 of method 8, in both programs. */
    private static void dueAtBound(String what, int ending, int[] trace, int... tail) {
        ShrinkDesk x = new ShrinkDesk();
        x.type(false, -1);
        filled(x, 0, STATIC, 0, 1, STATIC, 0, 1, STATIC, 0, 1, STATIC, 0, 1, OUT, 0, 0, OUT, 0, 0);
        filled(x, 1, STATIC, 0, 2, STATIC, 0, 2, STATIC, 0, 2, STATIC, 0, 2, STATIC, 0, 2, STATIC, 0, 2);
        filled(x, 2, OUT, 0, 1, OUT, 0, 2, OUT, 0, 3, OUT, 0, 4, OUT, 0, 5, OUT, 0, 6);
        filled(x, 3, OUT, 0, 1);
        filled(x, 4, STATIC, 0, 2, STATIC, 0, 2, STATIC, 0, 2, OUT, 0, 1, OUT, 0, 2);
        filled(x, 5);
        filled(x, 6, OUT, 0, 1);
        filled(x, 7, NEW, 0, 0);
        // 1 + (4 * (1 + 6 * 7) + 2), and 1 + (3 * 7 + 2).
        filled(x, 8, STATIC, 0, 0, STATIC, 0, 4);
        for (int k = 0; k < tail.length; k += 3) {
            x.code(tail[k], tail[k + 1], tail[k + 2]);
        }
        x.keep(0, 1, set(8));
        due("9 build", x.build(), OK);
        for (int which = 0; which < 2; which++) {
            String told = "9 the 200th step, " + what + ", program " + which;
            due(told, x.run(which, 0, 8), ending);
            due(told + ": steps", x.state(1), 200);
            dueTrace(told, x, trace);
        }
    }

    private static void promise9Deep() {
        ShrinkDesk x = new ShrinkDesk();
        x.type(false, -1);
        for (int n = 0; n < 6; n++) {
            filled(x, n, STATIC, 0, n + 1);
        }
        filled(x, 6, TEST, 0, 0, STATIC, 0, 7, STATIC, 0, 9);
        filled(x, 7, OUT, 0, 7);
        filled(x, 8, STATIC, 0, 0);
        filled(x, 9);
        x.keep(0, 1, set(0, 8));
        x.build();
        due("9 what would be too deep is inlined", x.stays(9, 0), 0);
        for (int which = 0; which < 2; which++) {
            due("9 eight at work are not too many", x.run(which, 0, 0), ShrinkDesk.DONE);
            due("9 the steps of eight", x.state(1), 8);
            due("9 nine are, even of an empty one", x.run(which, 0, 8), ShrinkDesk.DEEP);
            due("9 the steps of nine", x.state(1), 9);
            dueTrace("9 nine", x, 6, 2, 5, 0, 4, 0, 3, 0, 2, 0, 1, 0, 0, 0, 8, 0);
        }
    }

    private static void promise9BuiltByNewNames() {
        ShrinkDesk x = new ShrinkDesk();
        x.type(false, -1);
        x.type(false, -1);
        filled(x, 7, TEST, 1, 0, OUT, 0, 1);
        filled(x, 8, TEST, 1, 0);
        x.type(false, 1);
        filled(x, 7, TEST, 2, 0, OUT, 0, 2);
        x.type(false, -1);
        filled(x, 5, NEW, 2, 0, CALL, 1, 7, NEW, 1, 0, CALL, 1, 7);
        x.keep(0, set(3), set(5));
        due("9 build", x.build(), OK);
        due("9 class 1 is 0", x.renamed(1), 0);
        due("9 class 2 is 1", x.renamed(2), 1);
        due("9 class 3 is kept", x.renamed(3), 3);
        due("9 the old number", x.run(1, 2, 7), BAD);
        due("9 the old name", x.run(1, 1, 7), BAD);
        due("9 what went", x.run(1, 1, 8), BAD);
        due("9 class -1", x.run(1, -1, 0), BAD);
        due("9 new number and name", x.run(1, 1, 0), ShrinkDesk.DONE);
        due("9 nothing held there", x.state(0), 0);
        due("9 root", x.run(1, 3, 5), ShrinkDesk.DONE);
        dueOuts("9 root", x, 2, 1);
        due("9 a class that stays, but finds nothing", x.run(1, 3, 0), BAD);
    }

    private static void promise9TestLeavesEnterOut() {
        ShrinkDesk x = new ShrinkDesk();
        x.type(false, -1);
        filled(x, 0, OUT, 0, 1, OUT, 0, 2, OUT, 0, 3);
        filled(x, 1, TEST, 0, 0, STATIC, 0, 0, STATIC, 0, 0, NEW, 0, 0, TEST, 0, 0, STATIC, 0, 0);
        filled(x, 2, TEST, 0, 0, CALL, 0, 0);
        filled(x, 3, NEW, 0, 0, STATIC, 0, 1, STATIC, 0, 2);
        filled(x, 4, CALL, 0, 0);
        x.keep(0, 1, set(1, 2, 3, 4));
        due("9 build", x.build(), OK);
        due("9 lines of three ENTERs", x.stays(1, 2), 3 + 3 * 4);
        for (int which = 0; which < 2; which++) {
            due("9 first left out", x.run(which, 0, 1), ShrinkDesk.DONE);
            dueOuts("9 first left out", x, 1, 2, 3, 1, 2, 3);
            due("9 steps", x.state(1), 11);
            due("9 last left out", x.run(which, 0, 2), ShrinkDesk.DONE);
            due("9 one step", x.state(1), 1);
            due("9 none left out", x.run(which, 0, 3), ShrinkDesk.DONE);
            due("9 12 ints", x.state(0), 12);
            due("9 ENTER misses as CALL does", x.run(which, 0, 4), ShrinkDesk.MISS);
            dueTrace("9 ENTER misses", x, 4, 0);
        }
    }

    private static void promise10Place() {
        ShrinkDesk x = new ShrinkDesk();
        x.type(false, -1);
        filled(x, 0);
        filled(x, 1, OUT, 0, 0, OUT, 0, 0, OUT, 0, 0, OUT, 0, 0, OUT, 0, 0, NEW, 1, 0);
        filled(x, 2, NEW, 1, 0);
        due("10 no build yet", x.place(), -1);
        x.run(0, 0, 0);
        due("10 a run is no build", x.place(), -1);
        due("10 build", x.build(), ShrinkDesk.NOCLASS);
        due("10 first by methods, then lines", x.place(), 8 + 5);
        x.type(false, -1);
        due("10 still the latest build", x.place(), 8 + 5);
        due("10 build again", x.build(), OK);
        due("10 nothing wrong", x.place(), -1);
    }

    private static void promise11Renamed() {
        ShrinkDesk x = new ShrinkDesk();
        for (int c = 0; c < 10; c++) {
            x.type(false, -1);
        }
        filled(x, 0, TEST, 1, 0, TEST, 4, 0, TEST, 6, 0, TEST, 8, 0, TEST, 3, 0);
        x.keep(0, set(9), set(0));
        x.keep(1, set(0, 2, 4), 0);
        due("11 not built", x.renamed(9), BAD);
        due("11 build", x.build(), OK);
        // Of the kept ones 0 and 2 go, so that their numbers are free.
        int[] wants = {BAD, 0, BAD, 1, 4, BAD, 2, BAD, 3, 9};
        for (int c = 0; c < 10; c++) {
            due("11 class " + c, x.renamed(c), wants[c]);
        }
        due("11 class 10", x.renamed(10), BAD);
        due("11 class -1", x.renamed(-1), BAD);
        due("11 least class", x.renamed(LOW), BAD);
        x.clear();
        due("11 cleared", x.renamed(9), BAD);
    }

    private static void promise12Stays() {
        ShrinkDesk x = new ShrinkDesk();
        x.type(true, -1);
        x.method(4, true);
        x.type(false, -1);
        x.also(0);
        filled(x, 4);
        filled(x, 5, OUT, 0, 1);
        filled(x, 6, NEW, 1, 0, CALL, 0, 4, STATIC, 1, 5, TEST, 0, 0);
        due("12 not built", x.stays(0, 0), BAD);
        x.keep(0, set(0, 1), set(6, 4));
        due("12 build", x.build(), OK);
        due("12 abstract root", x.stays(0, 0), 1);
        due("12 abstract root's name", x.stays(0, 1), 4);
        due("12 abstract root's instructions", x.stays(0, 2), 0);
        due("12 an empty one is not abstract", x.stays(1, 0), 2);
        due("12 its instructions", x.stays(1, 2), 0);
        due("12 gone", x.stays(2, 0), 0);
        due("12 name of what went", x.stays(2, 1), BAD);
        due("12 instructions of what went", x.stays(2, 2), BAD);
        due("12 with instructions", x.stays(3, 0), 2);
        due("12 its name", x.stays(3, 1), 6);
        due("12 how many with what was inlined", x.stays(3, 2), 5);
        due("12 what 3", x.stays(3, 3), BAD);
        due("12 what -1", x.stays(3, -1), BAD);
        due("12 what 3 of what went", x.stays(2, 3), BAD);
        due("12 no method 4", x.stays(4, 0), BAD);
        due("12 no method -1", x.stays(-1, 0), BAD);
        due("12 greatest", x.stays(HIGH, 0), BAD);
    }

    /** Two interfaces, unlike each other, are of one family by a class that has both. */
    private static void promise12Families() {
        ShrinkDesk x = new ShrinkDesk();
        x.type(true, -1);
        x.method(3, true);
        x.type(true, -1);
        x.method(3, true);
        x.method(2, true);
        x.type(false, -1);
        x.method(3, true);
        x.type(false, 2);
        x.also(0);
        x.type(false, -1);
        x.also(0);
        x.also(1);
        x.type(false, -1);
        x.method(3, true);
        x.method(5, true);
        filled(x, 9, CALL, 0, 3, CALL, 1, 3, CALL, 1, 2, CALL, 2, 3, CALL, 5, 3, CALL, 5, 5);
        x.type(false, -1);
        x.keep(0, set(5, 6), set(9));
        due("12 build without the classes that join", x.build(), OK);
        int[] apart = {0, 0, 1, 0, 0, 1, 9};
        for (int m = 0; m < 7; m++) {
            due("12 apart, method " + m, x.stays(m, 1), apart[m]);
        }
        x.keep(0, set(3, 4), 0);
        x.keep(1, set(2), set(3));
        due("12 build with them", x.build(), OK);
        // 0, 1 and 3 are one by 3 and 4, and keep 3 by method 3; 4 is of another one.
        int[] joined = {3, 3, 0, 3, 0, 1, 9};
        for (int m = 0; m < 7; m++) {
            due("12 joined, method " + m, x.stays(m, 1), joined[m]);
        }
        for (int k = 0; k < 6; k++) {
            int[] names = {3, 3, 0, 3, 0, 1};
            due("12 name in line " + k, x.line(5, 9, k, 2), names[k]);
        }
    }

    /** No class has both of the interfaces, but each has a class with class 2's children. */
    private static void promise12FamilyByOthers() {
        ShrinkDesk x = new ShrinkDesk();
        x.type(true, -1);
        x.method(3, true);
        x.type(true, -1);
        x.method(4, true);
        x.method(3, true);
        x.type(false, -1);
        x.method(3, true);
        x.type(false, 2);
        x.also(0);
        x.type(false, 2);
        x.also(1);
        x.type(false, -1);
        filled(x, 9, CALL, 0, 3, CALL, 1, 4, CALL, 1, 3, CALL, 2, 3);
        x.keep(0, set(5, 3, 4), set(9));
        due("12 build", x.build(), OK);
        due("12 by the first interface", x.stays(0, 1), 0);
        due("12 another family in between", x.stays(1, 1), 1);
        due("12 the second interface by others", x.stays(2, 1), 0);
        due("12 the class that has them together", x.stays(3, 1), 0);
        x.keep(1, set(1), set(3));
        due("12 build with one of them kept", x.build(), OK);
        due("12 kept by others", x.stays(0, 1), 3);
        due("12 the family that is not kept", x.stays(1, 1), 0);
    }

    /**
     * Method 1 is in the sight of class 2, where 1 to 9 are kept, and of class 3, where an earlier
     * family has 0: so 10 is the least name for it.
     */
    private static void promise12NamesAboveNine() {
        ShrinkDesk x = new ShrinkDesk();
        x.type(true, -1);
        x.method(4, true);
        x.type(true, -1);
        x.method(0, true);
        x.type(false, -1);
        x.also(1);
        for (int n = 1; n < 10; n++) {
            x.method(n, true);
        }
        x.type(false, -1);
        x.also(0);
        x.also(1);
        filled(x, 7, CALL, 0, 4, CALL, 1, 0, STATIC, 3, 8);
        filled(x, 8, NEW, 3, 0);
        x.keep(0, set(2), ~1);
        x.keep(1, set(3), 0);
        x.keep(0, set(3), set(7));
        due("12 build", x.build(), OK);
        due("12 the first takes 0", x.stays(0, 1), 0);
        due("12 so ten is left", x.stays(1, 1), 10);
        due("12 it is told of the call, too", x.line(3, 7, 1, 2), 10);
        due("12 abstract, by its name", x.run(1, 2, 10), BAD);
        due("12 a later one", x.stays(12, 1), 1);
        due("12 is run by it", x.run(1, 3, 1), ShrinkDesk.DONE);
    }

    private static void promise13Line() {
        ShrinkDesk x = new ShrinkDesk();
        x.type(false, -1);
        x.type(true, -1);
        x.method(8, true);
        x.type(false, -1);
        x.also(1);
        filled(x, 8, OUT, 0, -1, FAIL, 5, 5);
        filled(x, 9, TEST, 1, 5, NEW, 2, 7);
        filled(x, 7, NEW, 2, 5, CALL, 1, 8, STATIC, 2, 9, TEST, 1, 9, STATIC, 2, 8, OUT, 4, LOW);
        filled(x, 6, FAIL, 3, 3);
        due("13 not built", x.line(1, 7, 0, 0), BAD);
        x.keep(0, set(2), set(7, 6));
        due("13 build", x.build(), OK);
        dueLine(x, 2, 7, 0, NEW, 2, 0, 3, 0, -1);
        dueLine(x, 2, 7, 1, ENTER, 0, 0, 3, 1, -1);
        dueLine(x, 2, 7, 2, OUT, -1, -1, 1, 0, 1);
        dueLine(x, 2, 7, 3, FAIL, -1, 0, 1, 1, 1);
        dueLine(x, 2, 7, 4, STATIC, 2, 0, 3, 2, -1);
        dueLine(x, 2, 7, 5, TEST, 0, 0, 3, 3, -1);
        dueLine(x, 2, 7, 6, ENTER, -1, 0, 3, 4, -1);
        dueLine(x, 2, 7, 7, OUT, -1, -1, 1, 0, 4);
        dueLine(x, 2, 7, 8, FAIL, -1, 0, 1, 1, 4);
        dueLine(x, 2, 7, 9, OUT, -1, LOW, 3, 5, -1);
        dueLine(x, 2, 7, 10, BAD, BAD, BAD, BAD, BAD, BAD);
        dueLine(x, 2, 0, 1, NEW, 2, 0, 2, 1, -1);
        dueLine(x, 2, 6, 0, FAIL, -1, 0, 4, 0, -1);
        due("13 what 6", x.line(2, 7, 9, 6), BAD);
        due("13 what -1", x.line(2, 7, 9, -1), BAD);
        due("13 k -1", x.line(2, 7, -1, 0), BAD);
        due("13 greatest k", x.line(2, 7, HIGH, 0), BAD);
        due("13 no such name", x.line(2, 9, 0, 0), BAD);
        due("13 name -1", x.line(2, -1, 0, 0), BAD);
        due("13 no such class", x.line(1, 7, 0, 0), BAD);
        due("13 class -1", x.line(-1, 7, 0, 0), BAD);
        x.type(false, 2);
        x.keep(0, set(3), 0);
        due("13 build with a child", x.build(), OK);
        due("13 the child is there", x.renamed(3), 3);
        due("13 what it finds is not in it", x.line(3, 7, 0, 0), BAD);
    }

    private static void promise14State() {
        ShrinkDesk x = new ShrinkDesk();
        x.type(true, -1);
        x.method(0, true);
        x.type(false, -1);
        x.also(0);
        filled(x, 1, OUT, 0, 5, CALL, 0, 0, STATIC, 1, 2);
        filled(x, 2, NEW, 1, 0);
        filled(x, 3);
        due("14 run", x.run(0, 1, 1), ShrinkDesk.MISS);
        due("14 outs", x.state(0), 1);
        due("14 steps", x.state(1), 2);
        due("14 at work", x.state(2), 1);
        due("14 classes of nothing built", x.state(3), BAD);
        due("14 methods of nothing built", x.state(4), BAD);
        x.keep(0, set(1), set(1));
        due("14 build", x.build(), OK);
        due("14 a build is no run", x.state(1), 2);
        due("14 classes", x.state(3), 2);
        due("14 methods with abstract ones", x.state(4), 3);
        due("14 another run", x.run(0, 1, 2), ShrinkDesk.DONE);
        due("14 outs of that", x.state(0), 0);
        due("14 steps of that", x.state(1), 1);
        due("14 at work then", x.state(2), 0);
        due("14 what 5", x.state(5), BAD);
        due("14 what -1", x.state(-1), BAD);
    }

    private static void promise15Out() {
        ShrinkDesk x = new ShrinkDesk();
        x.type(false, -1);
        filled(x, 0, OUT, 0, LOW, OUT, 0, HIGH, OUT, 0, 0, OUT, 0, -1);
        filled(x, 1, OUT, 0, 6);
        x.run(0, 0, 0);
        dueOuts("15 any int", x, LOW, HIGH, 0, -1);
        due("15 -1", x.out(-1), 0);
        due("15 least", x.out(LOW), 0);
        due("15 greatest", x.out(HIGH), 0);
        x.run(0, 0, 1);
        dueOuts("15 of the latest run alone", x, 6);
        due("15 not of the one before", x.out(1), 0);
    }

    private static void promise16Trace() {
        ShrinkDesk x = new ShrinkDesk();
        x.type(false, -1);
        filled(x, 0, OUT, 0, 1, STATIC, 0, 1);
        filled(x, 1, NEW, 0, 0, OUT, 0, 1, CALL, 0, 2);
        filled(x, 2, TEST, 0, 0, TEST, 0, 0, TEST, 0, 0, FAIL, 0, 0);
        due("16 fails", x.run(0, 0, 0), ShrinkDesk.FAILED);
        dueTrace("16 innermost first", x, 2, 3, 1, 2, 0, 1);
        due("16 what 2", x.trace(0, 2), BAD);
        due("16 what -1", x.trace(0, -1), BAD);
        due("16 -1", x.trace(-1, 0), BAD);
        due("16 greatest", x.trace(HIGH, 1), BAD);
        x.clear();
        dueTrace("16 told of what went", x, 2, 3, 1, 2, 0, 1);
    }

    private static void promise16TraceOfEntered() {
        ShrinkDesk x = new ShrinkDesk();
        x.type(false, -1);
        x.type(false, -1);
        filled(x, 0, OUT, 0, 1, OUT, 0, 2, FAIL, 0, 0);
        filled(x, 1, OUT, 0, 7, STATIC, 1, 3, STATIC, 1, 0);
        filled(x, 2, STATIC, 1, 3, NEW, 1, 0, CALL, 1, 1);
        filled(x, 3);
        x.keep(0, set(1), set(2));
        due("16 build", x.build(), OK);
        for (int which = 0; which < 2; which++) {
            due("16 fails inside", x.run(which, 1, 2), ShrinkDesk.FAILED);
            dueTrace("16 entered ones count", x, 0, 2, 1, 2, 2, 2);
            dueOuts("16 before", x, 7, 1, 2);
            due("16 steps", x.state(1), 9);
        }
        // The lines are laid anew by another build; what the run left is told as it was.
        x.keep(0, set(0), 0);
        x.type(false, -1);
        x.build();
        dueTrace("16 after another build", x, 0, 2, 1, 2, 2, 2);
    }

    private static void promise17OrderAndLimits() {
        ShrinkDesk x = new ShrinkDesk();
        int m = 0;
        for (int c = 0; c < 10; c++) {
            x.type(c == 4, -1);
            for (int n = 0; n < 3; n++) {
                due("17 method", x.method(n, true), m);
                m++;
            }
        }
        due("17 type BAD before FULL: parent", x.type(false, 10), BAD);
        due("17 type BAD before FULL: interface", x.type(true, 0), BAD);
        due("17 type BAD before FULL: parent an interface", x.type(false, 4), BAD);
        due("17 type FULL", x.type(false, 3), FULL);
        due("17 method BAD before FULL: there is one", x.method(2, true), BAD);
        due("17 method BAD before FULL: name", x.method(10, false), BAD);
        due("17 method FULL", x.method(3, true), FULL);
        due("17 build", x.build(), OK);
        due("17 built", x.state(3), 0);
        due("17 FULL leaves it", x.type(false, 3), FULL);
        due("17 built still", x.state(3), 0);
        due("17 clear", x.clear(), 10);
        due("17 nothing is built then", x.state(3), BAD);
        due("17 no run of it", x.run(1, 0, 0), BAD);
        x = new ShrinkDesk();
        for (int c = 0; c < 10; c++) {
            x.type(true, -1);
            for (int n = 0; n < 3; n++) {
                x.method(n, true);
            }
        }
        due("17 method BAD before FULL: filled in an interface", x.method(5, false), BAD);
        due("17 method FULL in an interface", x.method(5, true), FULL);
    }

    private static void whatWasBuiltIsNoMore() {
        for (int call = 0; call < 6; call++) {
            ShrinkDesk x = new ShrinkDesk();
            x.type(true, -1);
            x.type(false, -1);
            filled(x, 0, OUT, 0, 1);
            x.keep(0, 2, 1);
            x.build();
            due("2-7 refused type", x.type(false, 5), BAD);
            due("2-7 refused also", x.also(1), false);
            due("2-7 refused method", x.method(0, true), BAD);
            due("2-7 refused code", x.code(6, 0, 0), false);
            due("2-7 refused keep", x.keep(2, 0, 0), false);
            due("2-7 refused run", x.run(1, 5, 5), BAD);
            due("2-7 what is refused leaves it", x.renamed(1), 1);
            switch (call) {
                case 0: x.type(false, -1); break;
                case 1: x.also(0); break;
                case 2: x.method(1, true); break;
                case 3: x.code(OUT, 0, 2); break;
                case 4: x.keep(1, 0, 0); break;
                default: x.clear(); break;
            }
            String what = "2-7 what was built is no more, call " + call;
            due(what + ": state 3", x.state(3), BAD);
            due(what + ": state 4", x.state(4), BAD);
            due(what + ": renamed", x.renamed(1), BAD);
            due(what + ": stays", x.stays(0, 0), BAD);
            due(what + ": line", x.line(1, 0, 0, 0), BAD);
            due(what + ": run", x.run(1, 1, 0), BAD);
        }
    }
}
