/** The sentences of promises 1 to 9 that name a boundary: the new object and the changes. */
final class ChangeBoundaries {
    private ChangeBoundaries() {
    }

    static void hold(Boundaries sentences) {
        sentences.promise(1, "Creates a project without tasks.", ChangeBoundaries::newObject);
        adding(sentences);
        removing(sentences);
        linking(sentences);
        setting(sentences);
        sentences.promise(9, "Takes the levelled starts of all tasks as the baseline, which replaces an earlier one.",
                ChangeBoundaries::replacedBaseline);
        sentences.promise(9, "Returns the levelled length.", ChangeBoundaries::baselineLength);
    }

    private static void adding(Boundaries sentences) {
        sentences.promise(2, "Adds a task without dependencies.", ChangeBoundaries::withoutDependencies);
        sentences.promise(2, "Returns the index of the task.", ChangeBoundaries::indexOfAdded);
        sentences.promise(2, "Throws `IllegalArgumentException` if duration is not between 1 and 9, there is no such "
                + "resource, demand is not between 1 and 5, or release is not between 0 and 30",
                ChangeBoundaries::wrongAdding);
        sentences.promise(2, "Throws `IllegalStateException` if there are 12 tasks", ChangeBoundaries::fullProject);
    }

    private static void removing(Boundaries sentences) {
        sentences.promise(3, "Removes a task.", ChangeBoundaries::firstAndLastRemoved);
        sentences.promise(3, "Returns the number of tasks after the call.", ChangeBoundaries::downToNone);
        sentences.promise(3, "Throws `IndexOutOfBoundsException` if there is no such task",
                () -> Boundaries.noSuchTask((x, task) -> x.removeTask(task)));
    }

    private static void linking(Boundaries sentences) {
        sentences.promise(4, "Returns true if it is a new direct dependency, false if there was this one.",
                ChangeBoundaries::newDependency);
        sentences.promise(4, "Throws `IndexOutOfBoundsException` if there is no such task, for either argument",
                () -> Boundaries.noSuchTasks((x, task, needed) -> x.addDependency(task, needed)));
        sentences.promise(4, "Throws `IllegalArgumentException` if both arguments are equal",
                ChangeBoundaries::equalArguments);
        sentences.promise(4, "Throws `UnsupportedOperationException` if needed depends on task, directly or through a "
                + "chain", ChangeBoundaries::circles);
        sentences.promise(5, "Returns true if there was this direct dependency.", ChangeBoundaries::goneDependency);
        sentences.promise(5, "Throws `IndexOutOfBoundsException` if there is no such task, for either argument",
                () -> Boundaries.noSuchTasks((x, task, needed) -> x.removeDependency(task, needed)));
    }

    private static void setting(Boundaries sentences) {
        sentences.promise(6, "Returns the previous duration.", ChangeBoundaries::previousDuration);
        sentences.promise(6, "Throws `IndexOutOfBoundsException` if there is no such task",
                () -> Boundaries.noSuchTask((x, task) -> x.setDuration(task, 5)));
        sentences.promise(6, "Throws `IllegalArgumentException` if duration is not between 1 and 9",
                () -> Boundaries.range("duration", 1, 9, (x, duration) -> x.setDuration(3, duration)));
        sentences.promise(7, "Returns the previous release day.", ChangeBoundaries::previousRelease);
        sentences.promise(7, "Throws `IndexOutOfBoundsException` if there is no such task",
                () -> Boundaries.noSuchTask((x, task) -> x.setRelease(task, 5)));
        sentences.promise(7, "Throws `IllegalArgumentException` if release is not between 0 and 30",
                () -> Boundaries.range("release", 0, 30, (x, release) -> x.setRelease(3, release)));
        sentences.promise(8, "Returns the previous limit.", ChangeBoundaries::previousLimit);
        sentences.promise(8, "Throws `IllegalArgumentException` if there is no such resource, or limit is not between "
                + "5 and 20", ChangeBoundaries::wrongLimit);
    }

    private static void newObject() {
        TaskLeveller x = new TaskLeveller();
        Boundaries.equal("taskCount", 0, x.taskCount());
        Boundaries.refuses("the duration of task 0", Boundaries.INDEX, () -> x.duration(0));
        Boundaries.refuses("the first in order", Boundaries.NOTHING, () -> x.taskInOrder(0));
        Boundaries.refuses("the last task", Boundaries.NOTHING, x::lastTask);
        Boundaries.equal("projectLength", 0, x.projectLength());
        Boundaries.equal("levelledLength", 0, x.levelledLength());
        Boundaries.equal("criticalCount", 0, x.criticalCount());
        Boundaries.equal("tasksOn day 0", 0, x.tasksOn(0));
        Boundaries.equal("isConsistent", true, x.isConsistent());
        TaskLeveller other = Make.tasks(12);
        Boundaries.equal("taskCount beside a full object", 0, new TaskLeveller().taskCount());
        Boundaries.equal("taskCount of the full object", 12, other.taskCount());
    }

    private static void withoutDependencies() {
        TaskLeveller x = Make.triangle(12);
        x.removeTask(11);
        Boundaries.equal("the twelfth's index", 11, x.addTask(1, 0, 1, 0));
        Boundaries.equal("what it needs", 0, x.neededCount(11));
        Boundaries.equal("what needs it", 0, x.dependentCount(11));
        x.removeTask(0);
        Boundaries.equal("the index of one more", 11, x.addTask(1, 0, 1, 0));
        Boundaries.equal("what the one before needs", 0, x.neededCount(10));
        for (int task = 0; task < 12; task++) {
            Boundaries.equal("whether 11 depends on " + task, false, x.dependsDirectly(11, task));
            Boundaries.equal("whether " + task + " depends on 11", false, x.dependsDirectly(task, 11));
        }
        x.undo();
        Boundaries.equal("the index after undo", 11, x.addTask(1, 0, 1, 0));
        Boundaries.equal("what it needs after undo", 0, x.neededCount(11));
    }

    private static void indexOfAdded() {
        TaskLeveller x = new TaskLeveller();
        for (int task = 0; task < 12; task++) {
            Boundaries.equal("the index", task, x.addTask(1, 0, 1, 0));
        }
        x.removeTask(0);
        Boundaries.equal("the index after a removal from a full project", 11, x.addTask(1, 0, 1, 0));
        for (int task = 0; task < 12; task++) {
            x.removeTask(0);
        }
        Boundaries.equal("the index when all have gone", 0, x.addTask(1, 0, 1, 0));
    }

    private static void wrongAdding() {
        Boundaries.range("duration", 1, 9, (x, duration) -> x.addTask(duration, 0, 1, 0));
        Boundaries.noSuchResource((x, resource) -> x.addTask(1, resource, 1, 0));
        Boundaries.range("demand", 1, 5, (x, demand) -> x.addTask(1, 0, demand, 0));
        Boundaries.range("release", 0, 30, (x, release) -> x.addTask(1, 0, 1, release));
        Boundaries.equal("the lowest of all", 0, new TaskLeveller().addTask(1, 0, 1, 0));
        Boundaries.equal("the highest of all", 0, new TaskLeveller().addTask(9, 2, 5, 30));
        Boundaries.refuses("all too low", Boundaries.ARGUMENT, () -> new TaskLeveller().addTask(0, -1, 0, -1));
        Boundaries.refuses("all too high", Boundaries.ARGUMENT, () -> new TaskLeveller().addTask(10, 3, 6, 31));
    }

    private static void fullProject() {
        TaskLeveller x = Make.tasks(11);
        Boundaries.accepts("a twelfth task", () -> x.addTask(9, 2, 5, 30));
        Boundaries.refuses("a 13th task", Boundaries.STATE, () -> x.addTask(1, 0, 1, 0));
        Boundaries.refuses("a 13th task once more", Boundaries.STATE, () -> x.addTask(9, 2, 5, 30));
        Boundaries.equal("taskCount", 12, x.taskCount());
        x.removeTask(11);
        Boundaries.accepts("a twelfth task again", () -> x.addTask(1, 0, 1, 0));
        Boundaries.refuses("a 13th task again", Boundaries.STATE, () -> x.addTask(1, 0, 1, 0));
        x.undo();
        Boundaries.accepts("a twelfth task after undo", () -> x.addTask(1, 0, 1, 0));
        Twins.refused(Boundaries.check, y -> {
            Make.busy(y);
            Make.addTasks(y, 8);
        }, Boundaries.STATE, y -> y.addTask(1, 0, 1, 0));
    }

    private static void firstAndLastRemoved() {
        for (int gone = 0; gone < 12; gone++) {
            TaskLeveller x = new TaskLeveller();
            for (int task = 0; task < 12; task++) {
                x.addTask(task % 9 + 1, task % 3, task % 5 + 1, 2 * task);
            }
            x.removeTask(gone);
            for (int task = 0; task < 11; task++) {
                int was = task < gone ? task : task + 1;
                String what = " of " + task + " when " + gone + " is removed";
                Boundaries.equal("duration" + what, was % 9 + 1, x.duration(task));
                Boundaries.equal("resource" + what, was % 3, x.resource(task));
                Boundaries.equal("demand" + what, was % 5 + 1, x.demand(task));
                Boundaries.equal("release" + what, 2 * was, x.release(task));
            }
        }
    }

    private static void downToNone() {
        TaskLeveller x = Make.tasks(12);
        for (int left = 11; left >= 0; left--) {
            Boundaries.equal("tasks left", left, x.removeTask(left / 2));
            Boundaries.equal("taskCount", left, x.taskCount());
        }
        Boundaries.refuses("one more", Boundaries.INDEX, () -> x.removeTask(0));
    }

    private static void newDependency() {
        TaskLeveller x = Make.tasks(12);
        Boundaries.equal("the first", true, x.addDependency(1, 0));
        Boundaries.equal("the same at once", false, x.addDependency(1, 0));
        Boundaries.equal("a second one of the task", true, x.addDependency(1, 11));
        Boundaries.equal("the same later", false, x.addDependency(1, 0));
        Boundaries.equal("one between the outermost", true, x.addDependency(11, 0));
        Boundaries.equal("one beside a chain", true, x.addDependency(2, 1));
        Boundaries.equal("one that was there through a chain alone", true, x.addDependency(2, 0));
        x.removeDependency(2, 0);
        Boundaries.equal("one that was removed", true, x.addDependency(2, 0));
        x.undo();
        Boundaries.equal("one that was undone", true, x.addDependency(2, 0));
        Boundaries.equal("what 1 needs", 2, x.neededCount(1));
        TaskLeveller full = Make.triangle(12);
        for (int needed = 0; needed < 11; needed++) {
            Boundaries.equal("the same of all eleven", false, full.addDependency(11, needed));
        }
    }

    private static void equalArguments() {
        TaskLeveller x = Make.tasks(12);
        for (int number = 0; number < 12; number++) {
            int task = number;
            Boundaries.refuses(task + " on itself", Boundaries.ARGUMENT, () -> x.addDependency(task, task));
            Boundaries.equal("what " + task + " needs", 0, x.neededCount(task));
        }
        Boundaries.accepts("neighbours", () -> x.addDependency(1, 0));
        Boundaries.refuses("with dependencies", Boundaries.ARGUMENT, () -> x.addDependency(1, 1));
        Boundaries.changesNothing(Boundaries.ARGUMENT, y -> y.addDependency(0, 0));
        Boundaries.changesNothing(Boundaries.ARGUMENT, y -> y.addDependency(3, 3));
    }

    private static void circles() {
        for (int length = 2; length <= 12; length++) {
            int last = length - 1;
            Boundaries.refuses("a circle of " + length, Boundaries.UNSUPPORTED,
                    () -> Make.chain(last + 1, 1, 0).addDependency(0, last));
            TaskLeveller open = Make.chain(length, 1, 0);
            open.removeDependency(last, last - 1);
            Boundaries.equal("the circle of " + length + " with a gap", true, open.addDependency(0, last));
        }
        TaskLeveller x = Make.chain(12, 1, 0);
        Boundaries.refuses("inside a chain", Boundaries.UNSUPPORTED, () -> x.addDependency(4, 7));
        Boundaries.accepts("the same way as the chain", () -> x.addDependency(7, 4));
        Boundaries.changesNothing(Boundaries.UNSUPPORTED, y -> y.addDependency(0, 1));
        Boundaries.changesNothing(Boundaries.UNSUPPORTED, y -> y.addDependency(0, 3));
    }

    private static void goneDependency() {
        TaskLeveller x = Make.chain(3, 1, 0);
        Boundaries.equal("one that is there through a chain alone", false, x.removeDependency(2, 0));
        Boundaries.equal("the other way round", false, x.removeDependency(0, 1));
        Boundaries.equal("of a task and itself", false, x.removeDependency(1, 1));
        Boundaries.equal("both are still there", true, x.depends(2, 0));
        Boundaries.equal("one that is there", true, x.removeDependency(2, 1));
        Boundaries.equal("the same again", false, x.removeDependency(2, 1));
        Boundaries.equal("the other one is still there", true, x.dependsDirectly(1, 0));
        TaskLeveller full = Make.triangle(12);
        for (int needed = 0; needed < 11; needed++) {
            Boundaries.equal("one of all eleven", true, full.removeDependency(11, needed));
        }
        Boundaries.equal("what the last one needs", 0, full.neededCount(11));
        Boundaries.equal("what the one before it needs", 10, full.neededCount(10));
    }

    private static void previousDuration() {
        TaskLeveller x = Make.tasks(12);
        Boundaries.equal("from the lowest to the highest", 1, x.setDuration(11, 9));
        Boundaries.equal("the same again", 9, x.setDuration(11, 9));
        Boundaries.equal("back to the lowest", 9, x.setDuration(11, 1));
        Boundaries.refuses("too high", Boundaries.ARGUMENT, () -> x.setDuration(11, 10));
        Boundaries.equal("after a refusal", 1, x.setDuration(11, 2));
        Boundaries.equal("of the first one", 1, x.setDuration(0, 2));
    }

    private static void previousRelease() {
        TaskLeveller x = Make.tasks(12);
        Boundaries.equal("from the first to the last day", 0, x.setRelease(11, 30));
        Boundaries.equal("the same again", 30, x.setRelease(11, 30));
        Boundaries.equal("back to the first day", 30, x.setRelease(11, 0));
        Boundaries.refuses("too high", Boundaries.ARGUMENT, () -> x.setRelease(11, 31));
        Boundaries.equal("after a refusal", 0, x.setRelease(11, 2));
        Boundaries.equal("of the first one", 0, x.setRelease(0, 2));
    }

    private static void previousLimit() {
        TaskLeveller x = new TaskLeveller();
        for (int number = 0; number < 3; number++) {
            int resource = number;
            Boundaries.equal("the initial one", 10, x.setLimit(resource, 5));
            Boundaries.equal("the lowest", 5, x.setLimit(resource, 20));
            Boundaries.equal("the highest", 20, x.setLimit(resource, 20));
            Boundaries.refuses("too high", Boundaries.ARGUMENT, () -> x.setLimit(resource, 21));
            Boundaries.equal("after a refusal", 20, x.setLimit(resource, 10));
        }
    }

    private static void wrongLimit() {
        Boundaries.noSuchResource((x, resource) -> x.setLimit(resource, 10));
        for (int number = 0; number < 3; number++) {
            int resource = number;
            Boundaries.range("limit", 5, 20, (x, limit) -> x.setLimit(resource, limit));
        }
        Boundaries.refuses("both wrong", Boundaries.ARGUMENT, () -> new TaskLeveller().setLimit(3, 4));
    }

    private static void replacedBaseline() {
        TaskLeveller x = Make.tasks(12);
        x.takeBaseline();
        for (int task = 0; task < 12; task++) {
            x.setRelease(task, 30);
        }
        x.takeBaseline();
        for (int task = 0; task < 12; task++) {
            Boundaries.equal("the later start of " + task, x.levelledStart(task), x.baselineStart(task));
            Boundaries.equal("the drift of " + task, 0, x.drift(task));
        }
        Boundaries.equal("the last one's start", 31, x.baselineStart(11));
        TaskLeveller later = Make.tasks(1);
        later.takeBaseline();
        later.addTask(1, 0, 1, 7);
        later.takeBaseline();
        Boundaries.equal("a task that the earlier one did not have", 7, later.baselineStart(1));
        later.removeTask(0);
        later.removeTask(0);
        later.takeBaseline();
        Boundaries.equal("one without tasks is one", true, later.hasBaseline());
        later.addTask(1, 0, 1, 0);
        Boundaries.refuses("one without tasks has no starts", Boundaries.NOTHING, () -> later.baselineStart(0));
    }

    private static void baselineLength() {
        Boundaries.equal("without tasks", 0, new TaskLeveller().takeBaseline());
        Boundaries.equal("of the shortest task", 1, Make.tasks(1).takeBaseline());
        Boundaries.equal("the greatest", 138, Make.chain(12, 9, 30).takeBaseline());
        TaskLeveller x = Make.tasks(12);
        Boundaries.equal("longer than the project", 2, x.takeBaseline());
        Boundaries.equal("the project", 1, x.projectLength());
    }
}
