import java.util.ArrayList;
import java.util.List;
import java.util.function.Supplier;
import java.util.function.ToIntFunction;

/**
 * Finds out whether a call left a desk as it was: a desk that was told the same, but for that call,
 * has to answer all that can be asked alike. The questions are too many for one object's 512 calls,
 * so they are put in parts, each to two desks of its own.
 */
final class Unchanged extends Checks {
    /** With what makes the greatest desk of the tests, this stays below 512. */
    private static final int PART = 240;

    private record Question(String text, ToIntFunction<ShrinkDesk> ask) { }

    private static final List<List<Question>> PARTS = allParts();

    private Unchanged() { }

    /** The call answers what is due, and changes nothing. */
    static void by(String what, Supplier<ShrinkDesk> made, ToIntFunction<ShrinkDesk> call, int want) {
        due(what, call.applyAsInt(made.get()), want);
        for (List<Question> part : PARTS) {
            ShrinkDesk with = made.get();
            call.applyAsInt(with);
            compare(what, part, with, made.get());
        }
    }

    /** The same of a call that answers false. */
    static void byFalse(String what, Supplier<ShrinkDesk> made, Ask call) {
        by(what, made, x -> call.of(x) ? 1 : 0, 0);
    }

    /** Two desks that were told alike, though not in the same calls, answer alike. */
    static void alike(String what, Supplier<ShrinkDesk> made, Supplier<ShrinkDesk> like) {
        for (List<Question> part : PARTS) {
            compare(what, part, made.get(), like.get());
        }
    }

    /** A call that is answered with yes or no. */
    interface Ask {
        boolean of(ShrinkDesk x);
    }

    private static void compare(String what, List<Question> part, ShrinkDesk with, ShrinkDesk without) {
        for (Question question : part) {
            int got = question.ask.applyAsInt(with);
            int want = question.ask.applyAsInt(without);
            due(what + ": " + question.text, got, want);
            if (got != want) {
                return;
            }
        }
    }

    private static List<List<Question>> allParts() {
        List<List<Question>> parts = new ArrayList<>();
        parts.add(latestRun());
        addParts(parts, null, built());
        addParts(parts, new Question("build", ShrinkDesk::build), built());
        addParts(parts, null, runs(0));
        addParts(parts, null, runs(1));
        parts.add(room());
        return parts;
    }

    private static void addParts(List<List<Question>> parts, Question first, List<Question> all) {
        for (int from = 0; from < all.size(); from += PART) {
            List<Question> part = new ArrayList<>();
            if (first != null) {
                part.add(first);
            }
            part.addAll(all.subList(from, Math.min(from + PART, all.size())));
            parts.add(part);
        }
    }

    private static List<Question> latestRun() {
        List<Question> all = new ArrayList<>();
        all.add(new Question("place", ShrinkDesk::place));
        for (int k = 0; k < 5; k++) {
            int what = k;
            all.add(new Question("state " + k, x -> x.state(what)));
        }
        for (int k = 0; k < 12; k++) {
            int at = k;
            all.add(new Question("out " + k, x -> x.out(at)));
            all.add(new Question("trace method " + k, x -> x.trace(at, 0)));
            all.add(new Question("trace line " + k, x -> x.trace(at, 1)));
        }
        return all;
    }

    private static List<Question> built() {
        List<Question> all = new ArrayList<>();
        all.add(new Question("place", ShrinkDesk::place));
        all.add(new Question("classes that stay", x -> x.state(3)));
        all.add(new Question("methods that stay", x -> x.state(4)));
        for (int c = 0; c < 10; c++) {
            int number = c;
            all.add(new Question("renamed " + c, x -> x.renamed(number)));
        }
        for (int m = 0; m < 30; m++) {
            for (int w = 0; w < 3; w++) {
                int method = m;
                int what = w;
                all.add(new Question("stays " + m + " " + w, x -> x.stays(method, what)));
            }
        }
        for (int c = 0; c < 10; c++) {
            for (int n = 0; n < 10; n++) {
                addLines(all, c, n);
            }
        }
        return all;
    }

    private static void addLines(List<Question> all, int c, int n) {
        for (int k = 0; k < 7; k++) {
            for (int w = 0; w < 6; w++) {
                int at = k;
                int what = w;
                String text = "line " + c + " " + n + " " + k + " " + w;
                all.add(new Question(text, x -> x.line(c, n, at, what)));
            }
        }
    }

    private static List<Question> runs(int which) {
        List<Question> all = new ArrayList<>();
        for (int c = 0; c < 10; c++) {
            for (int n = 0; n < 10; n++) {
                int number = c;
                int name = n;
                String text = "run " + which + " " + c + " " + n;
                all.add(new Question(text, x -> x.run(which, number, name)));
                all.add(new Question(text + ": outs", x -> x.state(0)));
                all.add(new Question(text + ": steps", x -> x.state(1)));
                all.add(new Question(text + ": first out", x -> x.out(0)));
            }
        }
        return all;
    }

    /** What more is taken in, and what then comes of it. */
    private static List<Question> room() {
        List<Question> all = new ArrayList<>();
        for (int k = 0; k < 7; k++) {
            all.add(new Question("code " + k, x -> x.code(OUT, 0, 7) ? 1 : 0));
        }
        for (int k = 0; k < 10; k++) {
            int i = k;
            all.add(new Question("also " + k, x -> x.also(i) ? 1 : 0));
        }
        for (int n = 0; n < 10; n++) {
            int name = n;
            all.add(new Question("method " + n, x -> x.method(name, true)));
        }
        for (int k = 0; k < 5; k++) {
            all.add(new Question("keep " + k, x -> x.keep(0, -1, -1) ? 1 : 0));
        }
        for (int k = 0; k < 11; k++) {
            all.add(new Question("type " + k, x -> x.type(false, -1)));
        }
        all.addAll(List.of(new Question("build", ShrinkDesk::build), new Question("place", ShrinkDesk::place),
            new Question("classes", x -> x.state(3)), new Question("methods", x -> x.state(4)),
            new Question("clear", ShrinkDesk::clear), new Question("clear again", ShrinkDesk::clear)));
        return all;
    }
}
