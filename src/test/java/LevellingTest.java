import java.util.NoSuchElementException;

/** Promises 30 to 37, 43 and 45 to 49: levelled starts, usage, workload and the output text. */
public final class LevellingTest {
    private static final Class<IndexOutOfBoundsException> INDEX = IndexOutOfBoundsException.class;
    private static final Class<IllegalArgumentException> ARGUMENT = IllegalArgumentException.class;
    private static final Class<NoSuchElementException> NOTHING = NoSuchElementException.class;
    private static final int[] NO_RESOURCES = {-1, 3, 12, Integer.MAX_VALUE, Integer.MIN_VALUE};

    private static final Check check = new Check();

    public static void main(String[] args) {
        urgency();
        gaps();
        neededFinishes();
        limits();
        usage();
        workload();
        byStart();
        utilization();
        consistency();
        renderTask();
        renderUsage();
        wrongArguments();
        check.end();
    }

    private static void levelled(TaskLeveller x, int... due) {
        check.promise(30, "levelledStart");
        for (int task = 0; task < due.length; task++) {
            check.equal("of " + task, due[task], x.levelledStart(task));
        }
    }

    private static void urgency() {
        TaskLeveller x = new TaskLeveller();
        x.setLimit(0, 5);
        x.addTask(2, 0, 3, 0);
        x.addTask(2, 0, 3, 0);
        levelled(x, 0, 2);
        x.addTask(3, 0, 3, 0);
        // The longest has the lowest latest start.
        levelled(x, 3, 5, 0);
        check.promise(31, "levelledLength");
        check.equal("length", 7, x.levelledLength());
        check.promise(27, "projectLength");
        check.equal("length", 3, x.projectLength());
        x.addDependency(1, 2);
        // 0 and 1 both have day 3 as their latest start.
        levelled(x, 3, 5, 0);
        x.setDuration(1, 3);
        // Now 1 has day 3, and 0 has day 4.
        levelled(x, 6, 3, 0);
    }

    private static void gaps() {
        TaskLeveller x = new TaskLeveller();
        x.setLimit(1, 5);
        x.addTask(2, 1, 5, 0);
        x.addTask(4, 1, 5, 5);
        x.addTask(3, 1, 1, 0);
        // 0 starts at the latest on day 7, 1 on day 5, 2 on day 6: 2 before 0.
        levelled(x, 3, 5, 0);
        x.setDuration(0, 3);
        // 0 and 2 both have day 6 now, and the gap is three days wide.
        levelled(x, 0, 5, 9);
        x.setDuration(2, 2);
        levelled(x, 0, 5, 3);
        x.setRelease(2, 4);
        levelled(x, 0, 5, 9);
    }

    private static void neededFinishes() {
        TaskLeveller x = new TaskLeveller();
        x.setLimit(2, 5);
        x.addTask(4, 2, 5, 0);
        x.addTask(4, 2, 5, 0);
        x.addTask(1, 0, 1, 0);
        x.addDependency(2, 1);
        // The levelled finish of 1 counts, not its earliest one; 1 is more urgent than 0.
        levelled(x, 4, 0, 4);
        x.addDependency(2, 0);
        levelled(x, 0, 4, 8);
        check.promise(31, "levelledLength");
        check.equal("length", 9, x.levelledLength());
        check.promise(24, "latestStart");
        check.equal("of 2", 4, x.latestStart(2));
    }

    private static void limits() {
        TaskLeveller x = new TaskLeveller();
        for (int task = 0; task < 5; task++) {
            x.addTask(1, 0, 5, 0);
        }
        levelled(x, 0, 0, 1, 1, 2);
        x.setLimit(0, 9);
        levelled(x, 0, 1, 2, 3, 4);
        x.setLimit(0, 20);
        levelled(x, 0, 0, 0, 0, 1);
        x.setLimit(1, 5);
        x.addTask(1, 1, 5, 0);
        x.addTask(1, 1, 1, 0);
        levelled(x, 0, 0, 0, 0, 1, 0, 1);
        check.promise(31, "levelledLength");
        check.equal("without tasks", 0, new TaskLeveller().levelledLength());
    }

    /** On resource 0: 0 on days 0 to 2 with 4, 1 on days 0 and 1 with 3, 2 on day 3 with 5; 3 of resource 1 on day 40. */
    private static TaskLeveller sample() {
        TaskLeveller x = new TaskLeveller();
        x.addTask(3, 0, 4, 0);
        x.addTask(2, 0, 3, 0);
        x.addTask(1, 0, 5, 0);
        x.addTask(9, 1, 2, 30);
        x.addDependency(2, 0);
        return x;
    }

    private static void usage() {
        TaskLeveller x = sample();
        int[] due = {7, 7, 4, 5, 0, 0};
        for (int day = 0; day < due.length; day++) {
            check.promise(32, "usage");
            check.equal("day " + day, due[day], x.usage(0, day));
            check.promise(33, "usageByTasks");
            check.equal("day " + day, due[day], x.usageByTasks(0, day));
        }
        int[] days = {29, 30, 38, 39, 137, 138, 139, 1000, Integer.MAX_VALUE};
        for (int day : days) {
            int units = day == 30 || day == 38 ? 2 : 0;
            check.promise(32, "usage");
            check.equal("of 1 on " + day, units, x.usage(1, day));
            check.equal("of 2 on " + day, 0, x.usage(2, day));
            check.equal("of 0 on " + day, 0, x.usage(0, day));
            check.promise(33, "usageByTasks");
            check.equal("of 1 on " + day, units, x.usageByTasks(1, day));
            check.promise(35, "tasksOn");
            check.equal("on " + day, units / 2, x.tasksOn(day));
        }
        check.equal("on 0", 2, x.tasksOn(0));
        check.equal("on 2", 1, x.tasksOn(2));
        check.equal("on 3", 1, x.tasksOn(3));
        check.equal("on 4", 0, x.tasksOn(4));
        check.promise(34, "peakUsage");
        check.equal("of 0", 7, x.peakUsage(0));
        check.equal("of 1", 2, x.peakUsage(1));
        check.equal("of 2", 0, x.peakUsage(2));
        x.removeTask(3);
        check.equal("of 1, no longer demanded", 0, x.peakUsage(1));
        x.addTask(1, 1, 5, 0);
        check.equal("on the first day alone", 5, x.peakUsage(1));
    }

    private static void workload() {
        TaskLeveller x = sample();
        int[] due = {12 + 6 + 5, 18, 0};
        for (int resource = 0; resource < 3; resource++) {
            check.promise(36, "workload");
            check.equal("of " + resource, due[resource], x.workload(resource));
            check.promise(37, "workloadByDays");
            check.equal("of " + resource, due[resource], x.workloadByDays(resource));
        }
    }

    private static void byStart() {
        check.promise(43, "taskByStart");
        TaskLeveller x = sample();
        ranks(x, 0, 1, 2, 3);
        x.addTask(1, 2, 5, 0);
        x.addTask(1, 2, 4, 0);
        ranks(x, 4, 0, 5, 1, 2, 3);
        for (int strange : new int[] {-1, 6, 12, Integer.MAX_VALUE, Integer.MIN_VALUE}) {
            check.refuses("rank " + strange, NOTHING, () -> x.taskByStart(strange));
        }
        check.refuses("without tasks", NOTHING, () -> new TaskLeveller().taskByStart(0));
    }

    private static void ranks(TaskLeveller x, int... due) {
        for (int rank = 0; rank < due.length; rank++) {
            check.equal("rank " + rank, due[rank], x.taskByStart(rank));
        }
    }

    private static void utilization() {
        check.promise(45, "utilization");
        TaskLeveller x = sample();
        check.equal("of 0", 23.0f / 390.0f, x.utilization(0));
        check.equal("of 2", 0.0f, x.utilization(2));
        x.setLimit(1, 7);
        check.equal("of 1", 18.0f / 273.0f, x.utilization(1));
        TaskLeveller none = new TaskLeveller();
        check.refuses("without tasks", ArithmeticException.class, () -> none.utilization(0));
        check.refuses("without tasks and resource", ARGUMENT, () -> none.utilization(3));
    }

    private static void consistency() {
        check.promise(46, "isConsistent");
        check.equal("without tasks", true, new TaskLeveller().isConsistent());
        TaskLeveller x = sample();
        check.equal("with tasks", true, x.isConsistent());
        x.setLimit(0, 5);
        x.removeTask(0);
        check.equal("after a removal", true, x.isConsistent());
    }

    private static String text(TaskLeveller x, int length) {
        StringBuilder text = new StringBuilder();
        for (int index = 0; index < length; index++) {
            text.append(x.outputAt(index));
        }
        check.refuses("behind the text", INDEX, () -> x.outputAt(length));
        check.refuses("before the text", INDEX, () -> x.outputAt(-1));
        return text.toString();
    }

    private static void renderTask() {
        check.promise(49, "outputAt");
        TaskLeveller x = new TaskLeveller();
        check.equal("empty at first", "", text(x, 0));
        check.promise(47, "renderTask");
        for (int task = 0; task < 3; task++) {
            x.addTask(7, 0, 1, 0);
        }
        x.addTask(4, 0, 2, 0);
        x.addDependency(3, 1);
        x.addDependency(3, 0);
        check.equal("as in the document", "3:4x2r0@7!<0<1", text(x, x.renderTask(3)));
        check.equal("with slack", "2:7x1r0@0", text(x, x.renderTask(2)));
        check.equal("critical", "0:7x1r0@0!", text(x, x.renderTask(0)));
        for (int task = 4; task < 12; task++) {
            x.addTask(1, 1, 5, 30);
        }
        x.addDependency(2, 11);
        x.addDependency(2, 10);
        x.addDependency(2, 9);
        check.equal("two digits", "2:7x1r0@32!<9<10<11", text(x, x.renderTask(2)));
        check.equal("two digits", "11:1x5r1@31!", text(x, x.renderTask(11)));
        check.refuses("no such task", INDEX, () -> x.renderTask(12));
        check.refuses("task -1", INDEX, () -> x.renderTask(-1));
        check.equal("the text after a refusal", "11:1x5r1@31!", text(x, 12));
    }

    private static void renderUsage() {
        check.promise(48, "renderUsage");
        TaskLeveller x = sample();
        x.removeTask(3);
        check.equal("of 0", "7,7,4,5", text(x, x.renderUsage(0)));
        check.equal("of 1", "0,0,0,0", text(x, x.renderUsage(1)));
        x.addTask(1, 0, 3, 0);
        check.equal("two digits", "10,7,4,5", text(x, x.renderUsage(0)));
        check.refuses("resource 3", ARGUMENT, () -> x.renderUsage(3));
        check.equal("the text after a refusal", "10,7,4,5", text(x, 8));
        check.equal("without tasks", 0, new TaskLeveller().renderUsage(0));
        check.promise(49, "outputAt");
        TaskLeveller none = new TaskLeveller();
        none.addTask(1, 0, 1, 0);
        none.renderTask(0);
        none.removeTask(0);
        check.equal("is replaced by an empty text", "", text(none, none.renderUsage(0)));
        check.refuses("far", INDEX, () -> x.outputAt(Integer.MAX_VALUE));
        check.refuses("far below", INDEX, () -> x.outputAt(Integer.MIN_VALUE));
    }

    private static void wrongArguments() {
        check.about("promises 30 to 48 (wrong arguments)");
        TaskLeveller x = sample();
        for (int strange : NO_RESOURCES) {
            check.refuses("usage", ARGUMENT, () -> x.usage(strange, 0));
            check.refuses("usageByTasks", ARGUMENT, () -> x.usageByTasks(strange, 0));
            check.refuses("peakUsage", ARGUMENT, () -> x.peakUsage(strange));
            check.refuses("workload", ARGUMENT, () -> x.workload(strange));
            check.refuses("workloadByDays", ARGUMENT, () -> x.workloadByDays(strange));
            check.refuses("utilization", ARGUMENT, () -> x.utilization(strange));
            check.refuses("renderUsage", ARGUMENT, () -> x.renderUsage(strange));
        }
        for (int strange : new int[] {-1, Integer.MIN_VALUE}) {
            check.refuses("usage", ARGUMENT, () -> x.usage(0, strange));
            check.refuses("usageByTasks", ARGUMENT, () -> x.usageByTasks(0, strange));
            check.refuses("tasksOn", ARGUMENT, () -> x.tasksOn(strange));
        }
        for (int strange : new int[] {-1, 4, 12, Integer.MAX_VALUE, Integer.MIN_VALUE}) {
            check.refuses("levelledStart", INDEX, () -> x.levelledStart(strange));
        }
    }
}
