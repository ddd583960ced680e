import java.io.IOException;
import java.util.ArrayList;
import java.util.List;
import java.util.Set;
import java.util.TreeSet;
import java.util.function.Function;

/** Runs the tests of single sentences, and holds what they share. */
final class Boundaries {
    interface Ask {
        Object of(TaskLeveller x, int argument);
    }

    interface AskTwo {
        Object of(TaskLeveller x, int first, int second);
    }

    static final Class<IndexOutOfBoundsException> INDEX = IndexOutOfBoundsException.class;
    static final Class<IllegalArgumentException> ARGUMENT = IllegalArgumentException.class;
    static final Class<IllegalStateException> STATE = IllegalStateException.class;
    static final Class<java.util.NoSuchElementException> NOTHING = java.util.NoSuchElementException.class;
    static final Class<ArithmeticException> ARITHMETIC = ArithmeticException.class;
    static final Class<UnsupportedOperationException> UNSUPPORTED = UnsupportedOperationException.class;

    /** Numbers of 32 bits that no index, day or amount of a task comes near. */
    static final int[] FAR = {Integer.MIN_VALUE, Integer.MIN_VALUE + 1, -256, -32, -2, 32, 64, 256, 65536,
        Integer.MAX_VALUE};

    static final Check check = new Check();

    private final Document document;
    private final Set<String> tested = new TreeSet<>();
    private int broken = 0;

    Boundaries() throws IOException {
        document = new Document();
    }

    /** A sentence that stands under the promise itself. */
    void promise(int number, String sentence, Runnable test) {
        hold("Promise " + number, "promise " + number, sentence, test);
    }

    /** A sentence of the terms, with the promise in which it is seen. */
    void term(int number, String sentence, Runnable test) {
        hold("Terms", "promise " + number + " (terms)", sentence, test);
    }

    void opening(int number, String sentence, Runnable test) {
        hold("What it is", "promise " + number + " (what it is)", sentence, test);
    }

    private void hold(String section, String promise, String sentence, Runnable test) {
        String plain = Document.plain(sentence);
        String told = promise + ", \"" + plain + "\"";
        check.about(told);
        int before = check.wrong();
        check.equal("whether the document has the sentence", true, document.of(section).contains(plain));
        check.equal("whether it is the sentence's only test", true, tested.add(section + ": " + plain));
        check.equal("the test", "ended", Check.outcome(() -> {
            test.run();
            return "ended";
        }));
        boolean holds = check.wrong() == before;
        System.out.println((holds ? "holds  " : "BROKEN ") + told);
        broken += holds ? 0 : 1;
    }

    /** The sentences without a test, of all sections that promise something. */
    List<String> untested() {
        List<String> left = new ArrayList<>();
        for (String section : document.sections()) {
            for (String sentence : document.of(section)) {
                boolean promises = !section.equals("The public face") && !section.equals("Not promised");
                if (promises && !tested.contains(section + ": " + sentence)) {
                    left.add(sentence);
                }
            }
        }
        return left;
    }

    void tell() {
        System.out.println(tested.size() + " sentences with a test of their own, " + broken + " broken");
    }

    static void equal(String what, Object due, Object got) {
        check.equal(what, due, got);
    }

    static void refuses(String what, Class<? extends RuntimeException> due, Check.Call call) {
        check.refuses(what, due, call);
    }

    static void accepts(String what, Check.Call call) {
        Object outcome = Check.outcome(call);
        equal(what, false, outcome instanceof String && ((String) outcome).startsWith("throws "));
    }

    /** Refused on a busy object, with nothing changed. */
    static void changesNothing(Class<? extends RuntimeException> due, Function<TaskLeveller, Object> call) {
        Twins.refused(check, Make::busy, due, call);
    }

    /** So many tasks with a baseline, so that a task in range has an answer to every question. */
    private static TaskLeveller marked(int count) {
        TaskLeveller x = Make.tasks(count);
        x.takeBaseline();
        return x;
    }

    /** Every index up to the last one is accepted, and none beside. */
    static void noSuchTask(Ask ask) {
        for (int count : new int[] {0, 1, 2, 11, 12}) {
            for (int number = 0; number < count; number++) {
                int task = number;
                accepts("task " + task + " of " + count, () -> ask.of(marked(count), task));
            }
            for (int wrong : new int[] {-1, count, count + 1, 12, 13}) {
                refuses("task " + wrong + " of " + count, INDEX, () -> ask.of(marked(count), wrong));
            }
            for (int wrong : FAR) {
                refuses("task " + wrong + " of " + count, INDEX, () -> ask.of(marked(count), wrong));
            }
        }
        TaskLeveller x = marked(12);
        x.removeTask(3);
        refuses("the last index after a removal", INDEX, () -> ask.of(x, 11));
        changesNothing(INDEX, y -> ask.of(y, 4));
        changesNothing(INDEX, y -> ask.of(y, -1));
    }

    /** The same for two arguments, which are different tasks. */
    static void noSuchTasks(AskTwo ask) {
        accepts("the first and the last", () -> ask.of(marked(12), 0, 11));
        accepts("the last and the first", () -> ask.of(marked(12), 11, 0));
        refuses("without tasks", INDEX, () -> ask.of(marked(0), 0, 0));
        refuses("0 and 1 of 1 task", INDEX, () -> ask.of(marked(1), 0, 1));
        refuses("1 and 0 of 1 task", INDEX, () -> ask.of(marked(1), 1, 0));
        refuses("1 and 1 of 1 task", INDEX, () -> ask.of(marked(1), 1, 1));
        for (int wrong : new int[] {-1, 12, 13}) {
            refuses("task " + wrong, INDEX, () -> ask.of(marked(12), wrong, 0));
            refuses("needed " + wrong, INDEX, () -> ask.of(marked(12), 0, wrong));
            refuses("both " + wrong, INDEX, () -> ask.of(marked(12), wrong, wrong));
        }
        for (int wrong : FAR) {
            refuses("task " + wrong, INDEX, () -> ask.of(marked(12), wrong, 11));
            refuses("needed " + wrong, INDEX, () -> ask.of(marked(12), 11, wrong));
        }
        TaskLeveller x = marked(12);
        x.removeTask(0);
        refuses("the last index after a removal", INDEX, () -> ask.of(x, 11, 0));
        refuses("needed, the last index after a removal", INDEX, () -> ask.of(x, 0, 11));
        changesNothing(INDEX, y -> ask.of(y, 4, 0));
        changesNothing(INDEX, y -> ask.of(y, 0, 4));
    }

    /** Resources 0 to 2 are accepted, and none beside. */
    static void noSuchResource(Ask ask) {
        for (int number = 0; number < 3; number++) {
            int resource = number;
            accepts("resource " + resource, () -> ask.of(Make.tasks(1), resource));
        }
        for (int wrong : new int[] {-1, 3, 4}) {
            refuses("resource " + wrong, ARGUMENT, () -> ask.of(Make.tasks(1), wrong));
            refuses("resource " + wrong + " without tasks", ARGUMENT, () -> ask.of(Make.tasks(0), wrong));
        }
        for (int wrong : FAR) {
            refuses("resource " + wrong, ARGUMENT, () -> ask.of(Make.tasks(1), wrong));
        }
        changesNothing(ARGUMENT, y -> ask.of(y, 3));
        changesNothing(ARGUMENT, y -> ask.of(y, -1));
    }

    /** Day 0 and every later one are accepted, and no negative one. */
    static void negativeDay(Ask ask) {
        for (int day : new int[] {0, 1, 137, 138, 139, 1 << 16, Integer.MAX_VALUE}) {
            accepts("day " + day, () -> ask.of(Make.tasks(12), day));
            accepts("day " + day + " without tasks", () -> ask.of(Make.tasks(0), day));
        }
        for (int wrong : new int[] {-1, -2, -138, Integer.MIN_VALUE + 1, Integer.MIN_VALUE}) {
            refuses("day " + wrong, ARGUMENT, () -> ask.of(Make.tasks(12), wrong));
            refuses("day " + wrong + " without tasks", ARGUMENT, () -> ask.of(Make.tasks(0), wrong));
        }
        changesNothing(ARGUMENT, y -> ask.of(y, -1));
    }

    /** There is a rank or position for each task, and none beside. */
    static void noSuchRank(Ask ask) {
        for (int count : new int[] {0, 1, 2, 11, 12}) {
            for (int number = 0; number < count; number++) {
                int rank = number;
                accepts(rank + " of " + count, () -> ask.of(Make.tasks(count), rank));
            }
            for (int wrong : new int[] {-1, count, count + 1, 12, 13}) {
                refuses(wrong + " of " + count, NOTHING, () -> ask.of(Make.tasks(count), wrong));
            }
            for (int wrong : FAR) {
                refuses(wrong + " of " + count, NOTHING, () -> ask.of(Make.tasks(count), wrong));
            }
        }
        TaskLeveller x = Make.tasks(12);
        x.removeTask(11);
        refuses("the last one after a removal", NOTHING, () -> ask.of(x, 11));
        changesNothing(NOTHING, y -> ask.of(y, 4));
        changesNothing(NOTHING, y -> ask.of(y, -1));
    }

    /** The lowest and the highest number are accepted, and none beside them. */
    static void range(String what, int lowest, int highest, Ask ask) {
        for (int number = lowest; number <= highest; number++) {
            int fine = number;
            accepts(what + " " + fine, () -> ask.of(Make.busy(), fine));
        }
        for (int wrong : new int[] {lowest - 1, highest + 1, lowest - 2, highest + 2}) {
            refuses(what + " " + wrong, ARGUMENT, () -> ask.of(Make.busy(), wrong));
        }
        for (int wrong : FAR) {
            refuses(what + " " + wrong, ARGUMENT, () -> ask.of(Make.busy(), wrong));
        }
        changesNothing(ARGUMENT, y -> ask.of(y, lowest - 1));
        changesNothing(ARGUMENT, y -> ask.of(y, highest + 1));
    }
}
