/** Promises 1 to 3, 6 to 8 and 10 to 15: the tasks and the limits. */
public final class TasksTest {
    private static final Class<IndexOutOfBoundsException> INDEX = IndexOutOfBoundsException.class;
    private static final Class<IllegalArgumentException> ARGUMENT = IllegalArgumentException.class;
    private static final Class<IllegalStateException> STATE = IllegalStateException.class;
    private static final int[] STRANGE = {-1, 12, 31, 32, Integer.MAX_VALUE, Integer.MIN_VALUE};

    private static final Check check = new Check();

    public static void main(String[] args) {
        newObject();
        addTask();
        addTaskWrongly();
        removeTask();
        removeFromFull();
        removedTasksLeaveNothing();
        setDuration();
        setRelease();
        setLimit();
        reading();
        check.end();
    }

    private static void newObject() {
        check.promise(1, "a new object");
        TaskLeveller x = new TaskLeveller();
        check.equal("taskCount", 0, x.taskCount());
        check.equal("projectLength", 0, x.projectLength());
        check.equal("levelledLength", 0, x.levelledLength());
        check.equal("hasBaseline", false, x.hasBaseline());
        check.equal("criticalCount", 0, x.criticalCount());
        check.equal("isConsistent", true, x.isConsistent());
        for (int resource = 0; resource < 3; resource++) {
            check.equal("limit", 10, x.limit(resource));
            check.equal("workload", 0, x.workload(resource));
            check.equal("peakUsage", 0, x.peakUsage(resource));
        }
        check.refuses("undo", STATE, x::undo);
        check.refuses("restore", STATE, x::restore);
    }

    private static void addTask() {
        check.promise(2, "addTask");
        TaskLeveller x = new TaskLeveller();
        check.equal("lowest", 0, x.addTask(1, 0, 1, 0));
        check.equal("highest", 1, x.addTask(9, 2, 5, 30));
        check.equal("duration", 9, x.duration(1));
        check.equal("resource", 2, x.resource(1));
        check.equal("demand", 5, x.demand(1));
        check.equal("release", 30, x.release(1));
        check.equal("neededCount", 0, x.neededCount(1));
        check.equal("dependentCount", 0, x.dependentCount(1));
        for (int task = 2; task < 12; task++) {
            check.equal("index", task, x.addTask(2, 1, 3, 4));
        }
        check.refuses("a 13th task", STATE, () -> x.addTask(1, 0, 1, 0));
        check.refuses("a wrong 13th task", ARGUMENT, () -> x.addTask(0, 0, 1, 0));
        check.equal("taskCount", 12, x.taskCount());
        x.removeTask(3);
        check.equal("a 12th task again", 11, x.addTask(1, 0, 1, 0));
        check.equal("its neededCount", 0, x.neededCount(11));
    }

    private static void addTaskWrongly() {
        TaskLeveller x = new TaskLeveller();
        check.refuses("duration 0", ARGUMENT, () -> x.addTask(0, 0, 1, 0));
        check.refuses("duration 10", ARGUMENT, () -> x.addTask(10, 0, 1, 0));
        check.refuses("resource -1", ARGUMENT, () -> x.addTask(1, -1, 1, 0));
        check.refuses("resource 3", ARGUMENT, () -> x.addTask(1, 3, 1, 0));
        check.refuses("demand 0", ARGUMENT, () -> x.addTask(1, 0, 0, 0));
        check.refuses("demand 6", ARGUMENT, () -> x.addTask(1, 0, 6, 0));
        check.refuses("release -1", ARGUMENT, () -> x.addTask(1, 0, 1, -1));
        check.refuses("release 31", ARGUMENT, () -> x.addTask(1, 0, 1, 31));
        for (int strange : STRANGE) {
            check.refuses("duration " + strange, ARGUMENT, () -> x.addTask(strange, 0, 1, 0));
            check.refuses("resource " + strange, ARGUMENT, () -> x.addTask(1, strange, 1, 0));
            check.refuses("demand " + strange, ARGUMENT, () -> x.addTask(1, 0, strange, 0));
        }
        check.equal("taskCount", 0, x.taskCount());
        check.refuses("undo", STATE, x::undo);
    }

    private static void removeTask() {
        check.promise(3, "removeTask");
        TaskLeveller x = new TaskLeveller();
        check.refuses("without tasks", INDEX, () -> x.removeTask(0));
        for (int task = 0; task < 5; task++) {
            x.addTask(task + 1, task % 3, 5 - task, 10 + task);
        }
        x.addDependency(4, 0);
        x.addDependency(4, 1);
        x.addDependency(4, 2);
        x.addDependency(4, 3);
        x.addDependency(3, 0);
        x.addDependency(2, 1);
        check.equal("tasks after the call", 4, x.removeTask(1));
        check.equal("duration of the one before", 1, x.duration(0));
        for (int task = 1; task < 4; task++) {
            check.equal("duration moved down", task + 2, x.duration(task));
            check.equal("resource moved down", (task + 1) % 3, x.resource(task));
            check.equal("demand moved down", 4 - task, x.demand(task));
            check.equal("release moved down", 11 + task, x.release(task));
        }
        check.equal("3 on 0", true, x.dependsDirectly(3, 0));
        check.equal("3 on 1", true, x.dependsDirectly(3, 1));
        check.equal("3 on 2", true, x.dependsDirectly(3, 2));
        check.equal("2 on 0", true, x.dependsDirectly(2, 0));
        check.equal("1 on 0", false, x.dependsDirectly(1, 0));
        check.equal("2 on 1", false, x.dependsDirectly(2, 1));
        check.equal("neededCount", 3, x.neededCount(3));
        check.refuses("the old last", INDEX, () -> x.removeTask(4));
        for (int strange : STRANGE) {
            check.refuses("task " + strange, INDEX, () -> x.removeTask(strange));
        }
        check.equal("tasks after refusals", 4, x.taskCount());
        check.equal("the last", 3, x.removeTask(3));
        check.equal("the first", 2, x.removeTask(0));
        check.equal("again", 1, x.removeTask(0));
        check.equal("to none", 0, x.removeTask(0));
    }

    private static void removeFromFull() {
        check.promise(3, "removeTask");
        TaskLeveller x = new TaskLeveller();
        for (int task = 0; task < 12; task++) {
            x.addTask(task % 9 + 1, 0, 1, task);
        }
        x.addDependency(11, 0);
        x.addDependency(11, 5);
        check.equal("tasks after the call", 11, x.removeTask(5));
        check.equal("the last moved down", 11, x.release(10));
        check.equal("its duration", 3, x.duration(10));
        check.equal("its dependencies", 1, x.neededCount(10));
        check.equal("the last", 10, x.removeTask(10));
        check.promise(2, "addTask");
        x.addTask(1, 0, 1, 0);
        x.addTask(1, 0, 1, 0);
        check.equal("without dependencies", 0, x.neededCount(10));
        check.equal("without dependencies", 0, x.neededCount(11));
        check.equal("without dependents", 0, x.dependentCount(0));
    }

    /** A full project from which tasks are removed answers as one in which they never were. */
    private static void removedTasksLeaveNothing() {
        check.promise(3, "removeTask, what is left");
        int[] kept = {0, 0x001, 0x800, 0x7ff, 0xffe, 0x0ff, 0xf00, 0x555, 0xaaa};
        for (int days : new int[] {1, 4}) {
            for (int left : kept) {
                Twins.same(check, "with the tasks " + Integer.toBinaryString(left) + " left,",
                        x -> shrunk(x, days, left), x -> grown(x, days, left));
            }
        }
    }

    private static void shrunk(TaskLeveller x, int days, int left) {
        grown(x, days, 0xfff);
        for (int task = 11; task >= 0; task--) {
            if ((left >> task & 1) == 0) {
                x.removeTask(task);
            }
        }
        endAlike(x);
    }

    private static void grown(TaskLeveller x, int days, int left) {
        for (int task = 0; task < 12; task++) {
            if ((left >> task & 1) == 1) {
                int index = x.addTask(1 + task % days, task % 3, 1 + task % 5, 0);
                if (task % 4 > 0 && (left >> task - 1 & 1) == 1) {
                    x.addDependency(index, index - 1);
                }
            }
        }
        endAlike(x);
    }

    /** Has a plan made and a baseline, and nothing to undo, whatever the way was. */
    private static void endAlike(TaskLeveller x) {
        x.takeBaseline();
        x.save();
        x.restore();
    }

    private static void setDuration() {
        check.promise(6, "setDuration");
        TaskLeveller x = new TaskLeveller();
        check.refuses("both wrong", INDEX, () -> x.setDuration(0, 0));
        x.addTask(3, 0, 1, 0);
        check.equal("previous", 3, x.setDuration(0, 9));
        check.equal("previous", 9, x.setDuration(0, 1));
        check.equal("length", 1, x.projectLength());
        check.refuses("0", ARGUMENT, () -> x.setDuration(0, 0));
        check.refuses("10", ARGUMENT, () -> x.setDuration(0, 10));
        check.refuses("no such task", INDEX, () -> x.setDuration(1, 5));
        check.refuses("task -1", INDEX, () -> x.setDuration(-1, 5));
        check.equal("duration", 1, x.duration(0));
    }

    private static void setRelease() {
        check.promise(7, "setRelease");
        TaskLeveller x = new TaskLeveller();
        check.refuses("both wrong", INDEX, () -> x.setRelease(0, -1));
        x.addTask(3, 0, 1, 7);
        check.equal("previous", 7, x.setRelease(0, 30));
        check.equal("length", 33, x.projectLength());
        check.equal("previous", 30, x.setRelease(0, 0));
        check.refuses("-1", ARGUMENT, () -> x.setRelease(0, -1));
        check.refuses("31", ARGUMENT, () -> x.setRelease(0, 31));
        check.refuses("no such task", INDEX, () -> x.setRelease(1, 5));
        check.refuses("task -1", INDEX, () -> x.setRelease(-1, 5));
        check.equal("release", 0, x.release(0));
    }

    private static void setLimit() {
        check.promise(8, "setLimit");
        TaskLeveller x = new TaskLeveller();
        check.equal("previous", 10, x.setLimit(2, 20));
        check.equal("previous", 20, x.setLimit(2, 5));
        check.equal("limit", 5, x.limit(2));
        check.equal("another", 10, x.limit(0));
        check.refuses("4", ARGUMENT, () -> x.setLimit(0, 4));
        check.refuses("21", ARGUMENT, () -> x.setLimit(0, 21));
        check.refuses("resource -1", ARGUMENT, () -> x.setLimit(-1, 10));
        check.refuses("resource 3", ARGUMENT, () -> x.setLimit(3, 10));
        check.equal("limit", 10, x.limit(0));
    }

    private static void reading() {
        TaskLeveller x = new TaskLeveller();
        check.promise(10, "taskCount");
        x.addTask(4, 1, 3, 8);
        x.addTask(5, 2, 4, 9);
        check.equal("two", 2, x.taskCount());
        check.promise(11, "duration");
        check.equal("of 0", 4, x.duration(0));
        check.equal("of 1", 5, x.duration(1));
        check.promise(12, "resource");
        check.equal("of 0", 1, x.resource(0));
        check.equal("of 1", 2, x.resource(1));
        check.promise(13, "demand");
        check.equal("of 0", 3, x.demand(0));
        check.equal("of 1", 4, x.demand(1));
        check.promise(14, "release");
        check.equal("of 0", 8, x.release(0));
        check.equal("of 1", 9, x.release(1));
        check.promise(15, "limit");
        x.setLimit(0, 5);
        x.setLimit(1, 6);
        check.equal("of 0", 5, x.limit(0));
        check.equal("of 1", 6, x.limit(1));
        check.equal("of 2", 10, x.limit(2));
        check.refuses("of 3", ARGUMENT, () -> x.limit(3));
        check.about("promises 11 to 15 (wrong arguments)");
        check.refuses("duration of 2", INDEX, () -> x.duration(2));
        check.refuses("resource of 2", INDEX, () -> x.resource(2));
        check.refuses("demand of 2", INDEX, () -> x.demand(2));
        check.refuses("release of 2", INDEX, () -> x.release(2));
        for (int strange : STRANGE) {
            check.refuses("duration of " + strange, INDEX, () -> x.duration(strange));
            check.refuses("resource of " + strange, INDEX, () -> x.resource(strange));
            check.refuses("demand of " + strange, INDEX, () -> x.demand(strange));
            check.refuses("release of " + strange, INDEX, () -> x.release(strange));
            check.refuses("limit of " + strange, ARGUMENT, () -> x.limit(strange));
        }
    }
}
