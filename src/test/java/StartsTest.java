import java.util.NoSuchElementException;

/** Promises 22 to 29, 42 and 44: earliest and latest starts, and what follows from them. */
public final class StartsTest {
    private static final Class<IndexOutOfBoundsException> INDEX = IndexOutOfBoundsException.class;
    private static final Class<NoSuchElementException> NOTHING = NoSuchElementException.class;

    private static final Check check = new Check();

    public static void main(String[] args) {
        starts();
        releases();
        longest();
        withoutTasks();
        bySlack();
        wrongTasks();
        check.end();
    }

    /** 0 (3 days) before 1 (2) before 3 (4); 2 (1) before 3; 4 (5) alone, released on day 2. */
    private static TaskLeveller sample() {
        TaskLeveller x = new TaskLeveller();
        x.addTask(3, 0, 5, 0);
        x.addTask(2, 0, 5, 0);
        x.addTask(1, 0, 5, 1);
        x.addTask(4, 0, 5, 0);
        x.addTask(5, 0, 5, 2);
        x.addDependency(1, 0);
        x.addDependency(3, 1);
        x.addDependency(3, 2);
        return x;
    }

    private static void starts() {
        TaskLeveller x = sample();
        int[] earliest = {0, 3, 1, 5, 2};
        int[] latest = {0, 3, 4, 5, 4};
        int[] slack = {0, 0, 3, 0, 2};
        for (int task = 0; task < 5; task++) {
            check.promise(22, "earliestStart");
            check.equal("of " + task, earliest[task], x.earliestStart(task));
            check.promise(23, "earliestStartByRounds");
            check.equal("of " + task, earliest[task], x.earliestStartByRounds(task));
            check.promise(24, "latestStart");
            check.equal("of " + task, latest[task], x.latestStart(task));
            check.promise(25, "slack");
            check.equal("of " + task, slack[task], x.slack(task));
            check.promise(26, "isCritical");
            check.equal("of " + task, slack[task] == 0, x.isCritical(task));
        }
        check.promise(27, "projectLength");
        check.equal("length", 9, x.projectLength());
        check.promise(28, "criticalCount");
        check.equal("count", 3, x.criticalCount());
        check.promise(29, "lastTask");
        check.equal("task", 3, x.lastTask());
        x.setRelease(4, 4);
        check.equal("of two the lower index", 3, x.lastTask());
        x.setRelease(2, 8);
        check.equal("after a later release", 3, x.lastTask());
        x.setDuration(4, 9);
        check.equal("of two again", 3, x.lastTask());
        x.setRelease(4, 5);
        check.equal("another", 4, x.lastTask());
        x.setRelease(0, 30);
        x.removeDependency(1, 0);
        check.equal("the first", 0, x.lastTask());
        check.promise(44, "meanSlack");
        check.equal("mean", (5.0 + 5.0 + 1.0 + 1.0 + 0.0) / 5.0, shifted().meanSlack());
        check.equal("mean", 1.0, sample().meanSlack());
    }

    private static TaskLeveller shifted() {
        TaskLeveller x = sample();
        x.setRelease(2, 8);
        x.setDuration(4, 9);
        x.setRelease(4, 5);
        return x;
    }

    private static void releases() {
        check.promise(22, "earliestStart");
        TaskLeveller x = new TaskLeveller();
        x.addTask(2, 0, 1, 10);
        x.addTask(2, 0, 1, 11);
        x.addTask(2, 0, 1, 13);
        x.addDependency(1, 0);
        x.addDependency(2, 1);
        check.equal("the finish of the needed one", 12, x.earliestStart(1));
        check.equal("the finish over the release", 14, x.earliestStart(2));
        x.setRelease(2, 20);
        check.equal("the release over the finish", 20, x.earliestStart(2));
        check.promise(23, "earliestStartByRounds");
        check.equal("the release over the finish", 20, x.earliestStartByRounds(2));
        x.setRelease(2, 0);
        check.equal("an earlier release again", 14, x.earliestStartByRounds(2));
        x.setRelease(2, 20);
        check.promise(24, "latestStart");
        check.equal("of the first", 16, x.latestStart(0));
        check.promise(27, "projectLength");
        check.equal("length", 22, x.projectLength());
    }

    private static void longest() {
        TaskLeveller x = new TaskLeveller();
        for (int task = 0; task < 12; task++) {
            x.addTask(9, 0, 5, 30);
        }
        for (int task = 0; task < 11; task++) {
            x.addDependency(task, task + 1);
        }
        check.promise(22, "earliestStart");
        check.equal("the last day of all", 129, x.earliestStart(0));
        check.promise(23, "earliestStartByRounds");
        check.equal("the last day of all", 129, x.earliestStartByRounds(0));
        check.promise(27, "projectLength");
        check.equal("the greatest length", 138, x.projectLength());
        check.promise(28, "criticalCount");
        check.equal("all", 12, x.criticalCount());
        check.promise(30, "levelledStart");
        check.equal("the last day of all", 129, x.levelledStart(0));
        check.promise(31, "levelledLength");
        check.equal("the greatest length", 138, x.levelledLength());
        check.promise(48, "renderUsage");
        check.equal("the text", 138 + 137, x.renderUsage(0));
        check.promise(47, "renderTask");
        check.equal("three digits", "0:9x5r0@129!<1", text(x, x.renderTask(0)));
        x.setDuration(11, 7);
        check.equal("two zeros", "3:9x5r0@100!<4", text(x, x.renderTask(3)));
    }

    private static String text(TaskLeveller x, int length) {
        StringBuilder text = new StringBuilder();
        for (int index = 0; index < length; index++) {
            text.append(x.outputAt(index));
        }
        return text.toString();
    }

    private static void withoutTasks() {
        TaskLeveller x = new TaskLeveller();
        check.promise(27, "projectLength");
        check.equal("without tasks", 0, x.projectLength());
        check.promise(28, "criticalCount");
        check.equal("without tasks", 0, x.criticalCount());
        check.promise(29, "lastTask");
        check.refuses("without tasks", NOTHING, x::lastTask);
        check.promise(42, "taskBySlack");
        check.refuses("without tasks", NOTHING, () -> x.taskBySlack(0));
        check.promise(44, "meanSlack");
        check.refuses("without tasks", ArithmeticException.class, x::meanSlack);
        x.addTask(1, 0, 1, 0);
        x.removeTask(0);
        check.refuses("without tasks again", ArithmeticException.class, x::meanSlack);
    }

    private static void bySlack() {
        check.promise(42, "taskBySlack");
        TaskLeveller x = sample();
        ranks(x, 3, 0, 1, 4, 2);
        x.addTask(4, 1, 1, 5);
        ranks(x, 3, 5, 0, 1, 4, 2);
        x.setDuration(2, 9);
        x.setDuration(5, 9);
        check.equal("length", 14, x.projectLength());
        ranks(x, 2, 5, 3, 0, 1, 4);
        for (int strange : new int[] {-1, 6, 12, Integer.MAX_VALUE, Integer.MIN_VALUE}) {
            check.refuses("rank " + strange, NOTHING, () -> x.taskBySlack(strange));
        }
    }

    private static void ranks(TaskLeveller x, int... due) {
        for (int rank = 0; rank < due.length; rank++) {
            check.equal("rank " + rank, due[rank], x.taskBySlack(rank));
        }
    }

    private static void wrongTasks() {
        check.about("promises 22 to 26 (wrong arguments)");
        TaskLeveller x = sample();
        for (int strange : new int[] {-1, 5, 12, Integer.MAX_VALUE, Integer.MIN_VALUE}) {
            check.refuses("earliestStart", INDEX, () -> x.earliestStart(strange));
            check.refuses("earliestStartByRounds", INDEX, () -> x.earliestStartByRounds(strange));
            check.refuses("latestStart", INDEX, () -> x.latestStart(strange));
            check.refuses("slack", INDEX, () -> x.slack(strange));
            check.refuses("isCritical", INDEX, () -> x.isCritical(strange));
        }
    }
}
