/**
 * A desk that makes programs smaller: what can't be reached goes, short methods are done where
 * they are called, classes and methods get new names, and where something is found in the new
 * program is told in terms of the old one; both can be run.
 *
 * Two programs are held side by side, the one told (OLD) and the one made of it (BUILT). Row m of
 * the method arrays is method m of the first, row METHODS + m is what became of it in the second;
 * row r has its instructions at r * ROOM and behind. Inside, classes bear their old numbers in
 * both programs; new ones are only taken in and given out.
 */
public final class ShrinkDesk {
    public static final int OK = 0, NOCLASS = 1, NOTMADE = 2, NOMETHOD = 3, BAD = -1, FULL = -2;
    public static final int DONE = 0, FAILED = 1, MISS = 2, ABSENT = 3, DEEP = 4, LONG = 5;

    private static final int CLASSES = 10, METHODS = 30, NAMES = 10, LINES = 6, RULES = 4;
    private static final int STEPS = 200, DEPTH = 8, SHORT = 3;
    private static final int ROOM = LINES * (1 + SHORT);
    private static final int ROWS = 2 * METHODS;
    private static final int CODE = ROWS * ROOM;
    private static final int OLD = 0, BUILT = 1;
    private static final int OUT = 0, NEW = 1, CALL = 2, STATIC = 3, TEST = 4, FAIL = 5, ENTER = 6;
    private static final int GONE = 0, BARE = 1, FILLED = 2;
    private static final int NONE = -1, GOES_ON = -1;
    private static final int ALL_BITS = (1 << CLASSES) - 1;
    /** Each round of marking adds to sets of 80 members in all, so it never needs that many. */
    private static final int ROUNDS = 1000;

    private int classCount;
    private final boolean[] isInterfaceClass = new boolean[CLASSES];
    /** A class, its PARENT, the PARENT's PARENT, .. as a set; the sets below are told alike. */
    private final int[] chainOf = new int[CLASSES];
    private final int[] interfacesOf = new int[CLASSES];
    private final int[] ancestorsOf = new int[CLASSES];

    private int methodCount;
    private final int[] homeOf = new int[METHODS];
    private final int[] formOf = new int[ROWS];
    private final int[] nameOf = new int[ROWS];
    private final int[] lengthOf = new int[ROWS];

    private final int[] opOf = new int[CODE];
    private final int[] classOf = new int[CODE];
    private final int[] numberOf = new int[CODE];
    private final int[] sourceMethod = new int[CODE];
    private final int[] sourceLine = new int[CODE];
    private final int[] callLine = new int[CODE];

    private int ruleCount;
    private final int[] ruleKind = new int[RULES];
    private final int[] ruleClasses = new int[RULES];
    private final int[] ruleNames = new int[RULES];

    private boolean isBuilt;
    private int faultPlace;
    private int namedClasses;
    private int madeClasses;
    private int namedMethods;
    private int liveMethods;
    private final int[] newNumber = new int[CLASSES];
    private final int[] familyOf = new int[METHODS];
    private final int[] sightOf = new int[METHODS];

    private int depth;
    private final int[] frameRow = new int[DEPTH];
    private final int[] frameLine = new int[DEPTH];
    private final int[] frameHeld = new int[DEPTH];

    private int stepCount;
    private int outCount;
    private final int[] outInts = new int[STEPS];
    private int traceCount;
    private final int[] traceMethod = new int[DEPTH];
    private final int[] traceLine = new int[DEPTH];

    public ShrinkDesk() {
        faultPlace = NONE;
    }

    // ---- telling the program ----

    public int type(boolean isInterface, int parent) {
        if (parent != NONE && (isInterface || !isClass(parent) || isInterfaceClass[parent])) {
            return BAD;
        }
        if (classCount == CLASSES) {
            return FULL;
        }
        int c = classCount;
        classCount++;
        isInterfaceClass[c] = isInterface;
        interfacesOf[c] = 0;
        chainOf[c] = 1 << c;
        ancestorsOf[c] = 1 << c;
        if (parent != NONE) {
            chainOf[c] |= chainOf[parent];
            ancestorsOf[c] |= ancestorsOf[parent];
        }
        isBuilt = false;
        return c;
    }

    public boolean also(int i) {
        int latest = classCount - 1;
        if (i < 0 || i >= latest || !isInterfaceClass[i]) {
            return false;
        }
        int had = interfacesOf[latest];
        boolean hasTwo = (had & (had - 1)) != 0;
        if (hasTwo || hasBit(had, i)) {
            return false;
        }
        interfacesOf[latest] = had | 1 << i;
        // No class descends from the latest one yet, so no other set has to follow.
        ancestorsOf[latest] |= ancestorsOf[i];
        isBuilt = false;
        return true;
    }

    public int method(int name, boolean isAbstract) {
        int latest = classCount - 1;
        if (latest < 0 || name < 0 || name >= NAMES) {
            return BAD;
        }
        if (methodIn(OLD, latest, name) != NONE || isInterfaceClass[latest] && !isAbstract) {
            return BAD;
        }
        if (methodCount == METHODS) {
            return FULL;
        }
        int m = methodCount;
        methodCount++;
        homeOf[m] = latest;
        formOf[m] = isAbstract ? BARE : FILLED;
        nameOf[m] = name;
        lengthOf[m] = 0;
        isBuilt = false;
        return m;
    }

    public boolean code(int op, int c, int n) {
        int m = methodCount - 1;
        if (m < 0 || formOf[m] != FILLED || lengthOf[m] == LINES || op < OUT || op > FAIL) {
            return false;
        }
        boolean hasClass = op >= NEW && op <= TEST;
        boolean hasName = op == CALL || op == STATIC;
        if (hasClass && (c < 0 || c >= CLASSES) || hasName && (n < 0 || n >= NAMES)) {
            return false;
        }
        int at = m * ROOM + lengthOf[m];
        opOf[at] = op;
        classOf[at] = hasClass ? c : NONE;
        numberOf[at] = hasName || op == OUT ? n : 0;
        sourceMethod[at] = m;
        sourceLine[at] = lengthOf[m];
        callLine[at] = NONE;
        lengthOf[m]++;
        isBuilt = false;
        return true;
    }

    public boolean keep(int kind, int classes, int names) {
        if (ruleCount == RULES || kind < 0 || kind > 1) {
            return false;
        }
        ruleKind[ruleCount] = kind;
        ruleClasses[ruleCount] = classes & ALL_BITS;
        ruleNames[ruleCount] = names & ALL_BITS;
        ruleCount++;
        isBuilt = false;
        return true;
    }

    public int clear() {
        int had = classCount;
        classCount = 0;
        methodCount = 0;
        ruleCount = 0;
        isBuilt = false;
        return had;
    }

    // ---- building, running ----

    public int build() {
        isBuilt = false;
        faultPlace = firstFaultPlace();
        if (faultPlace != NONE) {
            return faultOf(faultPlace / 8 * ROOM + faultPlace % 8);
        }
        markFrom(OLD);
        inlineShortMethods();
        markFrom(BUILT);
        dropUnmarkedMethods();
        numberClasses();
        joinFamilies();
        nameFamilies();
        renameCalls();
        isBuilt = true;
        return OK;
    }

    public int run(int which, int c, int n) {
        int m = startMethod(which, c, n);
        if (m == NONE) {
            return BAD;
        }
        stepCount = 0;
        outCount = 0;
        depth = 1;
        frameRow[0] = which * METHODS + m;
        frameLine[0] = 0;
        frameHeld[0] = NONE;
        int ending = doSteps(which);
        recordTrace();
        return ending;
    }

    // ---- asking ----

    public int place() {
        return faultPlace;
    }

    public int renamed(int c) {
        return isBuilt && isClass(c) ? newNumber[c] : BAD;
    }

    public int stays(int m, int what) {
        if (!isBuilt || m < 0 || m >= methodCount) {
            return BAD;
        }
        int row = METHODS + m;
        if (what == 0) {
            return formOf[row];
        }
        if (formOf[row] == GONE) {
            return BAD;
        }
        switch (what) {
            case 1: return nameOf[row];
            case 2: return lengthOf[row];
            default: return BAD;
        }
    }

    public int line(int c, int n, int k, int what) {
        int home = isBuilt ? classNumbered(c) : NONE;
        if (home == NONE) {
            return BAD;
        }
        int m = methodIn(BUILT, home, n);
        if (m == NONE || k < 0 || k >= lengthOf[METHODS + m]) {
            return BAD;
        }
        int at = (METHODS + m) * ROOM + k;
        switch (what) {
            case 0: return opOf[at];
            case 1: return classOf[at] == NONE ? NONE : newNumber[classOf[at]];
            case 2: return numberOf[at];
            case 3: return sourceMethod[at];
            case 4: return sourceLine[at];
            case 5: return callLine[at];
            default: return BAD;
        }
    }

    public int state(int what) {
        switch (what) {
            case 0: return outCount;
            case 1: return stepCount;
            case 2: return traceCount;
            case 3: return isBuilt ? countBits(namedClasses) : BAD;
            case 4: return isBuilt ? countBits(namedMethods) : BAD;
            default: return BAD;
        }
    }

    public int out(int k) {
        return k >= 0 && k < outCount ? outInts[k] : 0;
    }

    public int trace(int k, int what) {
        if (k < 0 || k >= traceCount) {
            return BAD;
        }
        switch (what) {
            case 0: return traceMethod[k];
            case 1: return traceLine[k];
            default: return BAD;
        }
    }

    // ---- classes and what they find ----

    private boolean isClass(int c) {
        return c >= 0 && c < classCount;
    }

    private static boolean hasBit(int set, int k) {
        return (set >> k & 1) != 0;
    }

    private static int countBits(int set) {
        int count = 0;
        for (int k = 0; k < METHODS; k++) {
            count += set >> k & 1;
        }
        return count;
    }

    private boolean descends(int c, int from) {
        return (ancestorsOf[c] >> from & 1) != 0;
    }

    private int methodIn(int which, int c, int name) {
        for (int m = 0; m < methodCount; m++) {
            if (homeOf[m] == c && bears(which, m, name)) {
                return m;
            }
        }
        return NONE;
    }

    private boolean bears(int which, int m, int name) {
        int row = which * METHODS + m;
        return formOf[row] != GONE && nameOf[row] == name;
    }

    /**
     * A PARENT comes before its class, and methods come class by class: so the last one of the
     * chain is the nearest, and the first one of the ancestors is that of the least. The new
     * program's classes may stand in another order, but only INTERFACES are left to the ancestors,
     * and it makes no difference to a run which of their ABSTRACT methods is found.
     */
    private int find(int which, int c, int name) {
        int nearest = NONE;
        int least = NONE;
        for (int m = 0; m < methodCount; m++) {
            if (bears(which, m, name) && descends(c, homeOf[m])) {
                least = least == NONE ? m : least;
                nearest = (chainOf[c] >> homeOf[m] & 1) != 0 ? m : nearest;
            }
        }
        return nearest != NONE ? nearest : least;
    }

    // ---- what is wrong ----

    private int firstFaultPlace() {
        for (int m = 0; m < methodCount; m++) {
            for (int k = 0; k < lengthOf[m]; k++) {
                int fault = faultOf(m * ROOM + k);
                if (fault != OK) {
                    return 8 * m + k;
                }
            }
        }
        return NONE;
    }

    private int faultOf(int at) {
        int op = opOf[at];
        int c = classOf[at];
        if (c == NONE) {
            return OK;
        }
        if (c >= classCount) {
            return NOCLASS;
        }
        if (op == NEW) {
            return isInterfaceClass[c] ? NOTMADE : OK;
        }
        if (op == TEST) {
            return OK;
        }
        int found = find(OLD, c, numberOf[at]);
        if (found == NONE || op == STATIC && formOf[found] != FILLED) {
            return NOMETHOD;
        }
        return OK;
    }

    // ---- MARKING ----

    /** To name a class names its ancestors, since PARENT and INTERFACES of NAMED ones are NAMED. */
    private void markFrom(int which) {
        namedClasses = 0;
        madeClasses = 0;
        namedMethods = 0;
        liveMethods = 0;
        markRoots();
        boolean grew = true;
        for (int round = 0; round < ROUNDS && grew; round++) {
            int classesBefore = namedClasses;
            int madeBefore = madeClasses;
            int methodsBefore = namedMethods;
            int liveBefore = liveMethods;
            for (int m = 0; m < methodCount; m++) {
                int row = which * METHODS + m;
                int lines = hasBit(liveMethods, m) ? lengthOf[row] : 0;
                for (int k = 0; k < lines; k++) {
                    markInstruction(row * ROOM + k);
                }
            }
            grew = classesBefore != namedClasses || madeBefore != madeClasses
                || methodsBefore != namedMethods || liveBefore != liveMethods;
        }
    }

    private void markRoots() {
        for (int r = 0; r < ruleCount; r++) {
            if (ruleKind[r] == 0) {
                markRootsOf(r);
            }
        }
    }

    private void markRootsOf(int r) {
        for (int c = 0; c < classCount; c++) {
            if (hasBit(ruleClasses[r], c)) {
                namedClasses |= ancestorsOf[c];
            }
        }
        for (int m = 0; m < methodCount; m++) {
            if (isUnderRule(m, r)) {
                reachMethod(m);
            }
        }
    }

    private boolean isUnderRule(int m, int r) {
        return hasBit(ruleClasses[r], homeOf[m]) && hasBit(ruleNames[r], nameOf[m]);
    }

    private void markInstruction(int at) {
        int c = classOf[at];
        if (c == NONE) {
            return;
        }
        namedClasses |= ancestorsOf[c];
        switch (opOf[at]) {
            case NEW:
                madeClasses |= 1 << c;
                break;
            case STATIC:
                int found = find(OLD, c, numberOf[at]);
                reachMethod(found);
                break;
            case CALL:
                markCall(c, numberOf[at]);
                break;
            default:
                break;
        }
    }

    private void markCall(int c, int n) {
        int declared = find(OLD, c, n);
        nameMethod(declared);
        for (int d = 0; d < classCount; d++) {
            if (hasBit(madeClasses, d) && descends(d, c)) {
                int found = find(OLD, d, n);
                reachMethod(found);
            }
        }
    }

    private void nameMethod(int m) {
        if (m != NONE) {
            namedMethods |= 1 << m;
            namedClasses |= ancestorsOf[homeOf[m]];
        }
    }

    private void reachMethod(int m) {
        nameMethod(m);
        if (m != NONE && formOf[m] == FILLED) {
            liveMethods |= 1 << m;
        }
    }

    // ---- BUILDING ----

    private void inlineShortMethods() {
        for (int m = 0; m < methodCount; m++) {
            int lines = lengthOf[m];
            lengthOf[METHODS + m] = 0;
            for (int k = 0; k < lines; k++) {
                int at = m * ROOM + k;
                int target = hasBit(liveMethods, m) ? targetOf(at) : NONE;
                if (target == NONE || target == m || !isShort(target)) {
                    copyInstruction(at, METHODS + m, NONE);
                } else {
                    enterTarget(at, METHODS + m, target);
                }
            }
        }
    }

    private int targetOf(int at) {
        switch (opOf[at]) {
            case STATIC: return find(OLD, classOf[at], numberOf[at]);
            case CALL: return onlyTarget(classOf[at], numberOf[at]);
            default: return NONE;
        }
    }

    private int onlyTarget(int c, int n) {
        int target = NONE;
        for (int d = 0; d < classCount; d++) {
            if (hasBit(madeClasses, d) && descends(d, c)) {
                int found = find(OLD, d, n);
                if (target != NONE && target != found) {
                    return NONE;
                }
                target = found;
            }
        }
        return target;
    }

    private boolean isShort(int m) {
        if (formOf[m] != FILLED || lengthOf[m] > SHORT) {
            return false;
        }
        for (int k = 0; k < lengthOf[m]; k++) {
            int op = opOf[m * ROOM + k];
            if (op != OUT && op != FAIL) {
                return false;
            }
        }
        return true;
    }

    private void copyInstruction(int from, int row, int inlinedAt) {
        int to = row * ROOM + lengthOf[row];
        opOf[to] = opOf[from];
        classOf[to] = classOf[from];
        numberOf[to] = numberOf[from];
        sourceMethod[to] = sourceMethod[from];
        sourceLine[to] = sourceLine[from];
        callLine[to] = inlinedAt;
        lengthOf[row]++;
    }

    private void enterTarget(int call, int row, int target) {
        int enter = row * ROOM + lengthOf[row];
        copyInstruction(call, row, NONE);
        opOf[enter] = ENTER;
        numberOf[enter] = 0;
        if (opOf[call] == STATIC) {
            classOf[enter] = NONE;
        }
        int lines = lengthOf[target];
        for (int k = 0; k < lines; k++) {
            copyInstruction(target * ROOM + k, row, sourceLine[call]);
        }
    }

    private void dropUnmarkedMethods() {
        for (int m = 0; m < methodCount; m++) {
            int row = METHODS + m;
            if (hasBit(liveMethods, m)) {
                formOf[row] = FILLED;
            } else {
                formOf[row] = hasBit(namedMethods, m) ? BARE : GONE;
                lengthOf[row] = 0;
            }
        }
    }

    // ---- NEW NAMES ----

    private void numberClasses() {
        int keptClasses = 0;
        for (int r = 0; r < ruleCount; r++) {
            keptClasses |= ruleClasses[r] & namedClasses;
        }
        int used = keptClasses;
        for (int c = 0; c < classCount; c++) {
            newNumber[c] = BAD;
            if (hasBit(keptClasses, c)) {
                newNumber[c] = c;
            } else if (hasBit(namedClasses, c)) {
                newNumber[c] = leastOutside(used);
                used |= 1 << newNumber[c];
            }
        }
    }

    private static int leastOutside(int used) {
        int least = 0;
        for (int k = 0; k < CLASSES && hasBit(used, least); k++) {
            least++;
        }
        return least;
    }

    /** A family goes by its least method; the longest chain of kin has fewer links than METHODS. */
    private void joinFamilies() {
        for (int m = 0; m < methodCount; m++) {
            familyOf[m] = m;
        }
        boolean joined = true;
        for (int round = 0; round < METHODS && joined; round++) {
            joined = false;
            for (int m = 0; m < methodCount; m++) {
                int least = leastKinFamily(m);
                joined |= least != familyOf[m];
                familyOf[m] = least;
            }
        }
    }

    private int leastKinFamily(int m) {
        int least = familyOf[m];
        for (int other = 0; other < methodCount; other++) {
            if (familyOf[other] < least && areKin(m, other)) {
                least = familyOf[other];
            }
        }
        return least;
    }

    private boolean areKin(int a, int b) {
        if (nameOf[a] != nameOf[b] || !hasBit(namedMethods, a) || !hasBit(namedMethods, b)) {
            return false;
        }
        int shared = 0;
        for (int d = 0; d < classCount; d++) {
            if (hasBit(namedClasses, d) && descends(d, homeOf[a]) && descends(d, homeOf[b])) {
                shared |= 1 << d;
            }
        }
        return shared != 0;
    }

    private void nameFamilies() {
        seeFamilies();
        int kept = keptFamilies();
        for (int f = 0; f < methodCount; f++) {
            nameOf[METHODS + f] = hasBit(kept, f) ? nameOf[f] : NONE;
        }
        for (int f = 0; f < methodCount; f++) {
            if (hasBit(namedMethods, f) && familyOf[f] == f && !hasBit(kept, f)) {
                nameOf[METHODS + f] = leastFreeName(f);
            }
        }
        for (int m = 0; m < methodCount; m++) {
            nameOf[METHODS + m] = nameOf[METHODS + familyOf[m]];
        }
    }

    private void seeFamilies() {
        for (int f = 0; f < methodCount; f++) {
            sightOf[f] = 0;
        }
        for (int m = 0; m < methodCount; m++) {
            for (int d = 0; d < classCount; d++) {
                if (hasBit(namedMethods, m) && hasBit(namedClasses, d) && descends(d, homeOf[m])) {
                    sightOf[familyOf[m]] |= 1 << d;
                }
            }
        }
    }

    private int keptFamilies() {
        int kept = 0;
        for (int m = 0; m < methodCount; m++) {
            for (int r = 0; r < ruleCount; r++) {
                if (hasBit(namedMethods, m) && isUnderRule(m, r)) {
                    kept |= 1 << familyOf[m];
                }
            }
        }
        return kept;
    }

    /** It may be 10 or more: a family can meet in several classes, together, all lesser names. */
    private int leastFreeName(int f) {
        int taken = 0;
        for (int g = 0; g < methodCount; g++) {
            int name = nameOf[METHODS + g];
            if (name != NONE && (sightOf[f] & sightOf[g]) != 0) {
                taken |= 1 << name;
            }
        }
        int least = 0;
        for (int k = 0; k < METHODS && hasBit(taken, least); k++) {
            least++;
        }
        return least;
    }

    private void renameCalls() {
        for (int row = METHODS; row < METHODS + methodCount; row++) {
            for (int k = 0; k < lengthOf[row]; k++) {
                int at = row * ROOM + k;
                if (opOf[at] == CALL || opOf[at] == STATIC) {
                    int found = find(OLD, classOf[at], numberOf[at]);
                    numberOf[at] = found == NONE ? NONE : nameOf[METHODS + found];
                }
            }
        }
    }

    private int classNumbered(int number) {
        if (number < 0) {
            return NONE;
        }
        for (int c = 0; c < classCount; c++) {
            if (newNumber[c] == number) {
                return c;
            }
        }
        return NONE;
    }

    // ---- RUNNING ----

    private int startMethod(int which, int c, int n) {
        int home = NONE;
        if (which == OLD && firstFaultPlace() == NONE) {
            home = isClass(c) ? c : NONE;
        } else if (which == BUILT && isBuilt) {
            home = classNumbered(c);
        }
        if (home == NONE) {
            return NONE;
        }
        int m = find(which, home, n);
        return m != NONE && formOf[which * METHODS + m] == FILLED ? m : NONE;
    }

    private int doSteps(int which) {
        for (int step = 0; step < STEPS; step++) {
            endFinished();
            if (depth == 0) {
                return DONE;
            }
            stepCount++;
            int ending = doInstruction(which);
            if (ending != GOES_ON) {
                return ending;
            }
        }
        endFinished();
        return depth == 0 ? DONE : LONG;
    }

    private void endFinished() {
        for (int k = 0; k < DEPTH && depth > 0; k++) {
            int top = depth - 1;
            if (frameLine[top] < lengthOf[frameRow[top]]) {
                return;
            }
            depth--;
            if (top > 0) {
                frameLine[top - 1]++;
            }
        }
    }

    private int doInstruction(int which) {
        int top = depth - 1;
        int at = frameRow[top] * ROOM + frameLine[top];
        switch (opOf[at]) {
            case OUT:
                outInts[outCount] = numberOf[at];
                outCount++;
                break;
            case NEW:
                frameHeld[top] = classOf[at];
                break;
            case CALL:
                return doCall(which, classOf[at], numberOf[at]);
            case STATIC:
                int found = find(which, classOf[at], numberOf[at]);
                return invoke(which, found);
            case TEST:
                if (!isHeld(classOf[at])) {
                    leaveNextOut();
                }
                break;
            case ENTER:
                if (classOf[at] != NONE && !isHeld(classOf[at])) {
                    return MISS;
                }
                if (depth == DEPTH) {
                    return DEEP;
                }
                break;
            default:
                return FAILED;
        }
        frameLine[top]++;
        return GOES_ON;
    }

    private boolean isHeld(int c) {
        int held = frameHeld[depth - 1];
        return held != NONE && descends(held, c);
    }

    private int doCall(int which, int c, int n) {
        if (!isHeld(c)) {
            return MISS;
        }
        int found = find(which, frameHeld[depth - 1], n);
        return invoke(which, found);
    }

    private int invoke(int which, int m) {
        if (m == NONE || formOf[which * METHODS + m] != FILLED) {
            return ABSENT;
        }
        if (depth == DEPTH) {
            return DEEP;
        }
        frameRow[depth] = which * METHODS + m;
        frameLine[depth] = 0;
        frameHeld[depth] = frameHeld[depth - 1];
        depth++;
        return GOES_ON;
    }

    /** What was INLINED belongs to the ENTER before it, so it is passed over with that. */
    private void leaveNextOut() {
        int top = depth - 1;
        int row = frameRow[top];
        frameLine[top]++;
        for (int k = 0; k < SHORT; k++) {
            int next = frameLine[top] + 1;
            if (next < lengthOf[row] && callLine[row * ROOM + next] != NONE) {
                frameLine[top]++;
            }
        }
    }

    /** It is kept apart, since a later build changes the lines that the frames point to. */
    private void recordTrace() {
        traceCount = 0;
        for (int k = depth - 1; k >= 0; k--) {
            int row = frameRow[k];
            int at = row * ROOM + frameLine[k];
            addTrace(sourceMethod[at], sourceLine[at]);
            if (callLine[at] != NONE) {
                addTrace(row % METHODS, callLine[at]);
            }
        }
    }

    private void addTrace(int m, int oldLine) {
        if (traceCount < DEPTH) {
            traceMethod[traceCount] = m;
            traceLine[traceCount] = oldLine;
            traceCount++;
        }
    }
}
