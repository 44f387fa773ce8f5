import java.util.ArrayList;
import java.util.HashMap;
import java.util.HashSet;
import java.util.LinkedHashMap;
import java.util.List;
import java.util.Map;
import java.util.Set;
import java.util.TreeMap;
import java.util.TreeSet;

/**
 * A second reading of the document, with the Java library, recursion and exceptions. The new
 * program is a program of its own here, with new numbers and names all through.
 */
final class PlainDesk {
    private static final int BAD = -1, FULL = -2;

    private record Instruction(int op, Integer c, int n, int method, int line, int inlinedLine) { }

    private static final class Type {
        boolean isInterface;
        Integer parent;
        final List<Integer> interfaces = new ArrayList<>();
    }

    private static final class Method {
        int home;
        int name;
        boolean isAbstract;
        List<Instruction> code = new ArrayList<>();
    }

    private record Rule(int kind, int classes, int names) {
        boolean has(int c) {
            return (classes & 1 << c) != 0;
        }

        boolean has(Method m) {
            return has(m.home) && (names & 1 << m.name) != 0;
        }
    }

    private static final class Program {
        final TreeMap<Integer, Type> types = new TreeMap<>();
        final TreeMap<Integer, Method> methods = new TreeMap<>();

        Set<Integer> ancestors(int c) {
            Set<Integer> all = new TreeSet<>();
            all.add(c);
            Type t = types.get(c);
            if (t.parent != null) {
                all.addAll(ancestors(t.parent));
            }
            for (int i : t.interfaces) {
                all.addAll(ancestors(i));
            }
            return all;
        }

        boolean descends(int c, int from) {
            return ancestors(c).contains(from);
        }

        Integer in(int c, int name) {
            for (Map.Entry<Integer, Method> e : methods.entrySet()) {
                if (e.getValue().home == c && e.getValue().name == name) {
                    return e.getKey();
                }
            }
            return null;
        }

        Integer finds(int c, int name) {
            for (Integer at = c; at != null; at = types.get(at).parent) {
                if (in(at, name) != null) {
                    return in(at, name);
                }
            }
            for (int a : ancestors(c)) {
                if (in(a, name) != null) {
                    return in(a, name);
                }
            }
            return null;
        }
    }

    private static final class Marks {
        final Set<Integer> namedClasses = new HashSet<>();
        final Set<Integer> made = new HashSet<>();
        final Set<Integer> namedMethods = new HashSet<>();
        final Set<Integer> live = new HashSet<>();

        int size() {
            return namedClasses.size() + made.size() + namedMethods.size() + live.size();
        }
    }

    private Program told = new Program();
    private final List<Rule> rules = new ArrayList<>();
    private Program built;
    private Map<Integer, Integer> newNumbers;
    private int place = -1;
    private Runner latest;

    int type(boolean isInterface, int parent) {
        if (parent != -1) {
            Type p = told.types.get(parent);
            if (p == null || p.isInterface || isInterface) {
                return BAD;
            }
        }
        if (told.types.size() == 10) {
            return FULL;
        }
        Type t = new Type();
        t.isInterface = isInterface;
        t.parent = parent == -1 ? null : parent;
        int c = told.types.size();
        told.types.put(c, t);
        built = null;
        return c;
    }

    boolean also(int i) {
        if (told.types.isEmpty()) {
            return false;
        }
        int c = told.types.lastKey();
        List<Integer> interfaces = told.types.get(c).interfaces;
        if (i == c || !told.types.containsKey(i) || !told.types.get(i).isInterface
            || interfaces.contains(i) || interfaces.size() == 2) {
            return false;
        }
        interfaces.add(i);
        built = null;
        return true;
    }

    int method(int name, boolean isAbstract) {
        if (told.types.isEmpty() || name < 0 || name > 9) {
            return BAD;
        }
        int c = told.types.lastKey();
        if (told.in(c, name) != null || told.types.get(c).isInterface && !isAbstract) {
            return BAD;
        }
        if (told.methods.size() == 30) {
            return FULL;
        }
        Method m = new Method();
        m.home = c;
        m.name = name;
        m.isAbstract = isAbstract;
        int number = told.methods.size();
        told.methods.put(number, m);
        built = null;
        return number;
    }

    boolean code(int op, int c, int n) {
        if (told.methods.isEmpty()) {
            return false;
        }
        int m = told.methods.lastKey();
        Method method = told.methods.get(m);
        if (method.isAbstract || method.code.size() == 6 || op < 0 || op > 5) {
            return false;
        }
        boolean classMatters = op != 0 && op != 5;
        if (classMatters && (c < 0 || c > 9) || (op == 2 || op == 3) && (n < 0 || n > 9)) {
            return false;
        }
        method.code.add(new Instruction(op, classMatters ? c : null, n, m, method.code.size(), -1));
        built = null;
        return true;
    }

    boolean keep(int kind, int classes, int names) {
        if (rules.size() == 4 || kind != 0 && kind != 1) {
            return false;
        }
        rules.add(new Rule(kind, classes & 1023, names & 1023));
        built = null;
        return true;
    }

    int clear() {
        int had = told.types.size();
        told = new Program();
        rules.clear();
        built = null;
        return had;
    }

    /** What is wrong and where, or null. */
    private int[] fault() {
        for (Map.Entry<Integer, Method> e : told.methods.entrySet()) {
            for (Instruction i : e.getValue().code) {
                int wrong = wrongWith(i);
                if (wrong != 0) {
                    return new int[] {wrong, 8 * e.getKey() + i.line};
                }
            }
        }
        return null;
    }

    private int wrongWith(Instruction i) {
        if (i.c == null) {
            return 0;
        }
        if (!told.types.containsKey(i.c)) {
            return 1;
        }
        if (i.op == 1 && told.types.get(i.c).isInterface) {
            return 2;
        }
        if (i.op == 2 || i.op == 3) {
            Integer m = told.finds(i.c, i.n);
            if (m == null || i.op == 3 && told.methods.get(m).isAbstract) {
                return 3;
            }
        }
        return 0;
    }

    int build() {
        built = null;
        int[] wrong = fault();
        place = wrong == null ? -1 : wrong[1];
        if (wrong != null) {
            return wrong[0];
        }
        Map<Integer, List<Instruction>> code = new HashMap<>();
        told.methods.forEach((m, method) -> code.put(m, method.code));
        Marks first = marks(code);
        Map<Integer, List<Instruction>> inlined = new HashMap<>(code);
        for (int m : first.live) {
            inlined.put(m, inline(m, first));
        }
        Marks marks = marks(inlined);
        newNumbers = numbers(marks);
        Map<Integer, Integer> names = names(marks);
        built = new Program();
        for (int c : marks.namedClasses) {
            Type old = told.types.get(c);
            Type t = new Type();
            t.isInterface = old.isInterface;
            t.parent = old.parent == null ? null : newNumbers.get(old.parent);
            old.interfaces.forEach(i -> t.interfaces.add(newNumbers.get(i)));
            built.types.put(newNumbers.get(c), t);
        }
        for (int m : staying(marks)) {
            Method method = new Method();
            method.home = newNumbers.get(told.methods.get(m).home);
            method.name = names.get(m);
            method.isAbstract = !marks.live.contains(m);
            if (!method.isAbstract) {
                for (Instruction i : inlined.get(m)) {
                    method.code.add(renamed(i, names));
                }
            }
            built.methods.put(m, method);
        }
        return 0;
    }

    private Instruction renamed(Instruction i, Map<Integer, Integer> names) {
        int n = i.op == 2 || i.op == 3 ? names.get(told.finds(i.c, i.n)) : i.op == 0 ? i.n : 0;
        Integer c = i.c == null ? null : newNumbers.get(i.c);
        return new Instruction(i.op, c, n, i.method, i.line, i.inlinedLine);
    }

    private static Set<Integer> staying(Marks marks) {
        Set<Integer> all = new TreeSet<>(marks.namedMethods);
        all.addAll(marks.live);
        return all;
    }

    private Marks marks(Map<Integer, List<Instruction>> code) {
        Marks marks = new Marks();
        int size = -1;
        while (size != marks.size()) {
            size = marks.size();
            addRoots(marks);
            for (int m : staying(marks)) {
                marks.namedClasses.add(told.methods.get(m).home);
            }
            for (int c : new ArrayList<>(marks.namedClasses)) {
                Type t = told.types.get(c);
                if (t.parent != null) {
                    marks.namedClasses.add(t.parent);
                }
                marks.namedClasses.addAll(t.interfaces);
            }
            for (int m : new ArrayList<>(marks.live)) {
                code.get(m).forEach(i -> addInstruction(marks, i));
            }
        }
        return marks;
    }

    private void addRoots(Marks marks) {
        for (Rule r : rules) {
            if (r.kind == 0) {
                told.types.keySet().stream().filter(r::has).forEach(marks.namedClasses::add);
                told.methods.forEach((m, method) -> {
                    if (r.has(method)) {
                        marks.namedMethods.add(m);
                        if (!method.isAbstract) {
                            marks.live.add(m);
                        }
                    }
                });
            }
        }
    }

    private void addInstruction(Marks marks, Instruction i) {
        if (i.c != null) {
            marks.namedClasses.add(i.c);
        }
        if (i.op == 1) {
            marks.made.add(i.c);
        } else if (i.op == 3) {
            marks.live.add(told.finds(i.c, i.n));
        } else if (i.op == 2) {
            marks.namedMethods.add(told.finds(i.c, i.n));
            for (int d : marks.made) {
                if (told.descends(d, i.c)) {
                    int m = told.finds(d, i.n);
                    marks.namedMethods.add(m);
                    if (!told.methods.get(m).isAbstract) {
                        marks.live.add(m);
                    }
                }
            }
        }
    }

    private List<Instruction> inline(int m, Marks marks) {
        List<Instruction> lines = new ArrayList<>();
        for (Instruction i : told.methods.get(m).code) {
            Integer t = target(i, marks);
            if (t == null || t == m || !isShort(told.methods.get(t))) {
                lines.add(i);
                continue;
            }
            lines.add(new Instruction(6, i.op == 2 ? i.c : null, 0, m, i.line, -1));
            for (Instruction j : told.methods.get(t).code) {
                lines.add(new Instruction(j.op, null, j.n, t, j.line, i.line));
            }
        }
        return lines;
    }

    private Integer target(Instruction i, Marks marks) {
        if (i.op == 3) {
            return told.finds(i.c, i.n);
        }
        Set<Integer> targets = new HashSet<>();
        if (i.op == 2) {
            for (int d : marks.made) {
                if (told.descends(d, i.c)) {
                    targets.add(told.finds(d, i.n));
                }
            }
        }
        return targets.size() == 1 ? targets.iterator().next() : null;
    }

    private static boolean isShort(Method m) {
        return !m.isAbstract && m.code.size() <= 3
            && m.code.stream().allMatch(i -> i.op == 0 || i.op == 5);
    }

    private Map<Integer, Integer> numbers(Marks marks) {
        Map<Integer, Integer> numbers = new HashMap<>();
        for (int c : marks.namedClasses) {
            if (rules.stream().anyMatch(r -> r.has(c))) {
                numbers.put(c, c);
            }
        }
        for (int c : new TreeSet<>(marks.namedClasses)) {
            if (!numbers.containsKey(c)) {
                int number = 0;
                while (numbers.containsValue(number)) {
                    number++;
                }
                numbers.put(c, number);
            }
        }
        return numbers;
    }

    /** Families grow from their least method, one kin at a time. */
    private Map<Integer, Integer> names(Marks marks) {
        Set<Integer> left = new TreeSet<>(staying(marks));
        List<Set<Integer>> families = new ArrayList<>();
        while (!left.isEmpty()) {
            Set<Integer> family = new TreeSet<>();
            gather(left.iterator().next(), left, family, marks);
            families.add(family);
        }
        Map<Set<Integer>, Integer> names = new LinkedHashMap<>();
        for (Set<Integer> family : families) {
            for (int m : family) {
                if (rules.stream().anyMatch(r -> r.has(told.methods.get(m)))) {
                    names.put(family, told.methods.get(m).name);
                }
            }
        }
        for (Set<Integer> family : families) {
            if (!names.containsKey(family)) {
                Set<Integer> taken = new HashSet<>();
                names.forEach((other, name) -> {
                    Set<Integer> both = sight(other, marks);
                    both.retainAll(sight(family, marks));
                    if (!both.isEmpty()) {
                        taken.add(name);
                    }
                });
                int name = 0;
                while (taken.contains(name)) {
                    name++;
                }
                names.put(family, name);
            }
        }
        Map<Integer, Integer> byMethod = new HashMap<>();
        names.forEach((family, name) -> family.forEach(m -> byMethod.put(m, name)));
        return byMethod;
    }

    private void gather(int m, Set<Integer> left, Set<Integer> family, Marks marks) {
        left.remove(m);
        family.add(m);
        for (int other : new ArrayList<>(left)) {
            Method a = told.methods.get(m);
            Method b = told.methods.get(other);
            if (left.contains(other) && a.name == b.name && marks.namedClasses.stream()
                .anyMatch(d -> told.descends(d, a.home) && told.descends(d, b.home))) {
                gather(other, left, family, marks);
            }
        }
    }

    private Set<Integer> sight(Set<Integer> family, Marks marks) {
        Set<Integer> seen = new HashSet<>();
        for (int d : marks.namedClasses) {
            if (family.stream().anyMatch(m -> told.descends(d, told.methods.get(m).home))) {
                seen.add(d);
            }
        }
        return seen;
    }

    int run(int which, int c, int n) {
        if (which != 0 && which != 1 || which == 0 && fault() != null || which == 1 && built == null) {
            return BAD;
        }
        Program program = which == 0 ? told : built;
        if (!program.types.containsKey(c)) {
            return BAD;
        }
        Integer m = program.finds(c, n);
        if (m == null || program.methods.get(m).isAbstract) {
            return BAD;
        }
        latest = new Runner(program);
        return latest.run(m);
    }

    private static final class Ending extends RuntimeException {
        private static final long serialVersionUID = 1L;
        final int how;

        Ending(int how) {
            super(null, null, false, false);
            this.how = how;
        }
    }

    /** What is at work is a list of method and LINE, the innermost last. */
    private static final class Runner {
        private final Program program;
        final List<Integer> outs = new ArrayList<>();
        final List<int[]> work = new ArrayList<>();
        int steps;

        Runner(Program program) {
            this.program = program;
        }

        int run(int m) {
            try {
                invoke(m, null);
                return 0;
            } catch (Ending e) {
                return e.how;
            }
        }

        private void begin(int m) {
            if (work.size() == 8) {
                throw new Ending(4);
            }
            work.add(new int[] {m, -1});
        }

        private void end() {
            work.remove(work.size() - 1);
        }

        private void step(Instruction i) {
            work.get(work.size() - 1)[1] = i.line;
            if (steps == 200) {
                throw new Ending(5);
            }
            steps++;
        }

        private void invoke(int m, Integer given) {
            begin(m);
            Integer held = given;
            List<Instruction> code = program.methods.get(m).code;
            int k = 0;
            while (k < code.size()) {
                Instruction i = code.get(k);
                List<Instruction> belonging = belonging(code, k);
                int after = k + 1 + belonging.size();
                step(i);
                switch (i.op) {
                    case 0 -> outs.add(i.n);
                    case 1 -> held = i.c;
                    case 2 -> {
                        checkHeld(held, i.c);
                        Integer found = program.finds(held, i.n);
                        if (found == null || program.methods.get(found).isAbstract) {
                            throw new Ending(3);
                        }
                        invoke(found, held);
                    }
                    case 3 -> invoke(program.finds(i.c, i.n), held);
                    case 4 -> {
                        boolean leaveOut = held == null || !program.descends(held, i.c);
                        if (leaveOut && after < code.size()) {
                            after += 1 + belonging(code, after).size();
                        }
                    }
                    case 6 -> {
                        if (i.c != null) {
                            checkHeld(held, i.c);
                        }
                        enter(belonging);
                    }
                    default -> throw new Ending(1);
                }
                k = after;
            }
            end();
        }

        private void checkHeld(Integer held, int c) {
            if (held == null || !program.descends(held, c)) {
                throw new Ending(2);
            }
        }

        private void enter(List<Instruction> lines) {
            begin(lines.isEmpty() ? -1 : lines.get(0).method);
            for (Instruction i : lines) {
                step(i);
                if (i.op == 5) {
                    throw new Ending(1);
                }
                outs.add(i.n);
            }
            end();
        }

        private static List<Instruction> belonging(List<Instruction> code, int k) {
            int end = k + 1;
            while (code.get(k).op == 6 && end < code.size()
                && code.get(end).inlinedLine == code.get(k).line) {
                end++;
            }
            return code.subList(k + 1, end);
        }
    }

    int place() {
        return place;
    }

    int renamed(int c) {
        return built == null || !told.types.containsKey(c) ? BAD : newNumbers.getOrDefault(c, BAD);
    }

    int stays(int m, int what) {
        if (built == null || !told.methods.containsKey(m) || what < 0 || what > 2) {
            return BAD;
        }
        Method method = built.methods.get(m);
        if (method == null) {
            return what == 0 ? 0 : BAD;
        }
        return what == 0 ? (method.isAbstract ? 1 : 2) : what == 1 ? method.name : method.code.size();
    }

    int line(int c, int n, int k, int what) {
        Integer m = built == null ? null : built.in(c, n);
        if (m == null || k < 0 || k >= built.methods.get(m).code.size()) {
            return BAD;
        }
        Instruction i = built.methods.get(m).code.get(k);
        return switch (what) {
            case 0 -> i.op;
            case 1 -> i.c == null ? -1 : i.c;
            case 2 -> i.n;
            case 3 -> i.method;
            case 4 -> i.line;
            case 5 -> i.inlinedLine;
            default -> BAD;
        };
    }

    int state(int what) {
        return switch (what) {
            case 0 -> latest == null ? 0 : latest.outs.size();
            case 1 -> latest == null ? 0 : latest.steps;
            case 2 -> latest == null ? 0 : latest.work.size();
            case 3 -> built == null ? BAD : built.types.size();
            case 4 -> built == null ? BAD : built.methods.size();
            default -> BAD;
        };
    }

    int out(int k) {
        return latest == null || k < 0 || k >= latest.outs.size() ? 0 : latest.outs.get(k);
    }

    int trace(int k, int what) {
        if (latest == null || k < 0 || k >= latest.work.size() || what < 0 || what > 1) {
            return BAD;
        }
        return latest.work.get(latest.work.size() - 1 - k)[what];
    }

    // For the tests that make programs: what a wise choice is.

    boolean isRoot(int m) {
        return rules.stream().anyMatch(r -> r.kind == 0 && r.has(told.methods.get(m)))
            && !told.methods.get(m).isAbstract;
    }

    int methodCount() {
        return told.methods.size();
    }

    int classCount() {
        return told.types.size();
    }

    int home(int m) {
        return told.methods.get(m).home;
    }

    int name(int m) {
        return told.methods.get(m).name;
    }

    boolean isInterface(int c) {
        return told.types.get(c).isInterface;
    }

    boolean descends(int c, int from) {
        return told.descends(c, from);
    }

    boolean canCall(int c, int n) {
        return told.types.containsKey(c) && told.finds(c, n) != null;
    }

    boolean canCallStatic(int c, int n) {
        return canCall(c, n) && !told.methods.get(told.finds(c, n)).isAbstract;
    }
}
