import java.util.ArrayList;
import java.util.List;
import java.util.function.ToIntFunction;

/**
 * Compares an object on which a refused call was made with a twin on which it was not: every other
 * call, the questions and the changes with the questions after them, must have the same answers.
 */
final class Refusals {
    // With the calls that make a sample this stays below the 512 that the document speaks of.
    private static final int CALLS_ON_ONE_OBJECT = 400;
    private static final int[] SOME_ASSIGNMENTS = {0, 21, 42, 63};

    private record Call(String name, ToIntFunction<TrajectoryCheck> made) {
    }

    private final Sample sample;
    /** Each course is made on an object of its own. */
    private final List<List<Call>> courses = new ArrayList<>();
    private final List<int[]> twin;

    Refusals(Sample sample) {
        this.sample = sample;
        addQuestions();
        addNodes();
        addConnections();
        addItems();
        addDrops();
        twin = answers(TrajectoryCheck::nodes);
    }

    void due(String call, ToIntFunction<TrajectoryCheck> refused, int code) {
        String where = "on the " + sample.name() + " object " + call;
        Due.due(where, refused.applyAsInt(sample.make()), code);
        List<int[]> after = answers(refused);
        for (int c = 0; c < courses.size(); c++) {
            for (int n = 0; n < courses.get(c).size(); n++) {
                Due.due(where + ", and then " + courses.get(c).get(n).name(), after.get(c)[n], twin.get(c)[n]);
            }
        }
    }

    private List<int[]> answers(ToIntFunction<TrajectoryCheck> before) {
        List<int[]> all = new ArrayList<>();
        for (List<Call> course : courses) {
            TrajectoryCheck x = sample.make();
            before.applyAsInt(x);
            all.add(course.stream().mapToInt(call -> call.made().applyAsInt(x)).toArray());
        }
        return all;
    }

    private void addQuestions() {
        List<Call> questions = summary();
        for (int t = 0; t < 4; t++) {
            for (int node = 0; node <= 20; node++) {
                for (int assignment : SOME_ASSIGNMENTS) {
                    questions.add(value(t, node, assignment));
                }
            }
        }
        for (int from = 0; from < questions.size(); from += CALLS_ON_ONE_OBJECT) {
            int to = from + CALLS_ON_ONE_OBJECT;
            courses.add(questions.subList(from, to < questions.size() ? to : questions.size()));
        }
    }

    private void addNodes() {
        List<Call> course = new ArrayList<>();
        for (int kind = 0; kind <= 5; kind++) {
            int k = kind;
            course.add(new Call("node(" + k + ", 0, 0)", x -> x.node(k, 0, 0)));
        }
        course.addAll(summary());
        courses.add(course);
    }

    private void addConnections() {
        List<Call> course = new ArrayList<>();
        for (int latch = 0; latch <= 20; latch++) {
            int k = latch;
            course.add(new Call("connect(" + k + ", 0)", x -> x.connect(k, 0)));
        }
        course.addAll(summary());
        courses.add(course);
    }

    private void addItems() {
        List<Call> course = new ArrayList<>();
        for (int sort = 0; sort <= 1; sort++) {
            int claimed = sort;
            course.add(new Call("item(" + sort + ", 1, 0, 3, 4)", x -> x.item(claimed, 1, 0, 3, 4)));
        }
        course.addAll(summary());
        courses.add(course);
    }

    /** The items of a sort are taken away one by one, so that each of them shows what it is. */
    private void addDrops() {
        for (int sort = 0; sort <= 1; sort++) {
            int claimed = sort;
            List<Call> once = new ArrayList<>();
            once.add(new Call("drop(" + sort + ", 0)", x -> x.drop(claimed, 0)));
            once.addAll(summary());
            courses.add(once);
            List<Call> all = new ArrayList<>();
            for (int n = 0; n <= 12; n++) {
                all.add(new Call("drop(" + sort + ", 0)", x -> x.drop(claimed, 0)));
                all.addAll(decisions());
            }
            courses.add(all);
        }
    }

    private static List<Call> decisions() {
        List<Call> calls = new ArrayList<>();
        calls.add(new Call("nodes()", TrajectoryCheck::nodes));
        calls.add(new Call("fails()", TrajectoryCheck::fails));
        calls.add(new Call("idle()", TrajectoryCheck::idle));
        calls.add(new Call("first()", TrajectoryCheck::first));
        for (int item = 0; item <= 12; item++) {
            int k = item;
            calls.add(new Call("failsOf(" + k + ")", x -> x.failsOf(k)));
            calls.add(new Call("without(" + k + ")", x -> x.without(k)));
        }
        return calls;
    }

    /** What is asked in a few hundred calls: all decisions, and of each node, even those that aren't there, its sets. */
    private static List<Call> summary() {
        List<Call> calls = decisions();
        for (int number = 0; number <= 20; number++) {
            int node = number;
            calls.add(new Call("cone(" + node + ")", x -> x.cone(node)));
            for (int moment = 0; moment < 4; moment++) {
                int t = moment;
                calls.add(new Call("definite(" + t + ", " + node + ")", x -> x.definite(t, node)));
                calls.add(new Call("needs(" + t + ", " + node + ")", x -> x.needs(t, node)));
            }
        }
        return calls;
    }

    private static Call value(int t, int node, int assignment) {
        return new Call("value(" + t + ", " + node + ", " + assignment + ")", x -> x.value(t, node, assignment));
    }
}
