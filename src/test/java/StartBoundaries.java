/** The sentences of promises 22 to 31 that name a boundary: the starts and lengths. */
final class StartBoundaries {
    private static final String NO_TASK = "Throws `IndexOutOfBoundsException` if there is no such task";

    private StartBoundaries() {
    }

    static void hold(Boundaries sentences) {
        sentences.promise(22, "Returns the earliest start of a task, found by recursion over the tasks on which it "
                + "depends.", () -> longest((x, task) -> x.earliestStart(task)));
        sentences.promise(22, NO_TASK, () -> Boundaries.noSuchTask((x, task) -> x.earliestStart(task)));
        sentences.promise(23, "Returns the same day as earliestStart, found by improving the starts of all tasks in "
                + "rounds until nothing changes.", () -> longest((x, task) -> x.earliestStartByRounds(task)));
        sentences.promise(23, NO_TASK, () -> Boundaries.noSuchTask((x, task) -> x.earliestStartByRounds(task)));
        sentences.promise(24, NO_TASK, () -> Boundaries.noSuchTask((x, task) -> x.latestStart(task)));
        sentences.promise(25, "Returns the number of days.", StartBoundaries::greatestSlack);
        sentences.promise(25, NO_TASK, () -> Boundaries.noSuchTask((x, task) -> x.slack(task)));
        sentences.promise(26, "Returns true if it is critical.", StartBoundaries::critical);
        sentences.promise(26, NO_TASK, () -> Boundaries.noSuchTask((x, task) -> x.isCritical(task)));
        sentences.promise(27, "Returns the length of the project.", StartBoundaries::lengths);
        sentences.promise(28, "Returns the number of critical tasks.", StartBoundaries::criticalCounts);
        sentences.promise(29, "Returns the task with the greatest finish by earliest starts, of several the one with "
                + "the lowest index.", StartBoundaries::lastTasks);
        sentences.promise(29, "Throws `NoSuchElementException` if there are no tasks", StartBoundaries::noLastTask);
        sentences.promise(30, NO_TASK, () -> Boundaries.noSuchTask((x, task) -> x.levelledStart(task)));
        sentences.promise(31, "Returns the levelled length.", StartBoundaries::levelledLengths);
    }

    private static void longest(Boundaries.Ask ask) {
        TaskLeveller up = Make.chain(12, 9, 30);
        TaskLeveller down = new TaskLeveller();
        Make.addTasks(down, 12);
        for (int task = 0; task < 12; task++) {
            down.setDuration(task, 9);
            down.setRelease(task, 30);
        }
        for (int task = 0; task < 11; task++) {
            down.addDependency(task, task + 1);
        }
        for (int task = 0; task < 12; task++) {
            Boundaries.equal("of " + task + " in the longest chain upwards", 30 + 9 * task, ask.of(up, task));
            Boundaries.equal("of " + task + " in the longest chain downwards", 129 - 9 * task, ask.of(down, task));
        }
        up.setRelease(0, 0);
        Boundaries.equal("of the first one, released on day 0", 0, ask.of(up, 0));
        Boundaries.equal("of the second one, still released on day 30", 30, ask.of(up, 1));
        TaskLeveller all = Make.triangle(12);
        Boundaries.equal("of the last one with all dependencies", 11, ask.of(all, 11));
        all.setDuration(0, 9);
        Boundaries.equal("when the first one takes longer", 19, ask.of(all, 11));
        all.setDuration(0, 1);
        Boundaries.equal("when it no longer does", 11, ask.of(all, 11));
    }

    private static void greatestSlack() {
        TaskLeveller x = Make.chain(11, 9, 30);
        x.addTask(1, 1, 1, 0);
        Boundaries.equal("of the first one in the chain", 0, x.slack(0));
        Boundaries.equal("of the last one in the chain", 0, x.slack(10));
        Boundaries.equal("of the shortest beside the longest chain", 128, x.slack(11));
        Boundaries.equal("of a single task", 0, Make.tasks(1).slack(0));
    }

    private static void critical() {
        TaskLeveller x = new TaskLeveller();
        x.addTask(5, 0, 1, 0);
        x.addTask(4, 1, 1, 0);
        x.addTask(4, 2, 1, 1);
        Boundaries.equal("no slack", true, x.isCritical(0));
        Boundaries.equal("a slack of one day", false, x.isCritical(1));
        Boundaries.equal("no slack because of the release", true, x.isCritical(2));
        x.setDuration(1, 5);
        Boundaries.equal("no slack any more", true, x.isCritical(1));
        x.setDuration(1, 6);
        Boundaries.equal("a slack of one day by another task's length", false, x.isCritical(0));
    }

    private static void lengths() {
        Boundaries.equal("without tasks", 0, new TaskLeveller().projectLength());
        Boundaries.equal("the shortest", 1, Make.tasks(1).projectLength());
        Boundaries.equal("of twelve side by side", 1, Make.tasks(12).projectLength());
        Boundaries.equal("the greatest", 138, Make.chain(12, 9, 30).projectLength());
    }

    private static void criticalCounts() {
        Boundaries.equal("without tasks", 0, new TaskLeveller().criticalCount());
        Boundaries.equal("of one", 1, Make.tasks(1).criticalCount());
        TaskLeveller x = Make.tasks(12);
        Boundaries.equal("all", 12, x.criticalCount());
        x.setDuration(11, 2);
        Boundaries.equal("one alone", 1, x.criticalCount());
        x.setDuration(0, 2);
        Boundaries.equal("the first and the last", 2, x.criticalCount());
    }

    private static void lastTasks() {
        TaskLeveller x = Make.tasks(12);
        Boundaries.equal("of twelve", 0, x.lastTask());
        x.setDuration(11, 2);
        Boundaries.equal("the last one by one day", 11, x.lastTask());
        x.setRelease(10, 1);
        Boundaries.equal("of two by duration and release", 10, x.lastTask());
        x.addDependency(3, 2);
        Boundaries.equal("of three by a dependency", 3, x.lastTask());
        x.setDuration(0, 2);
        Boundaries.equal("of four the first", 0, x.lastTask());
        Boundaries.equal("of one", 0, Make.tasks(1).lastTask());
        TaskLeveller levelled = Make.tasks(12);
        levelled.setLimit(0, 5);
        Boundaries.equal("by earliest starts, not by levelled ones", 0, levelled.lastTask());
        Boundaries.equal("the levelled start of 11", 2, levelled.levelledStart(11));
    }

    private static void noLastTask() {
        TaskLeveller x = new TaskLeveller();
        Boundaries.refuses("at first", Boundaries.NOTHING, x::lastTask);
        x.addTask(1, 0, 1, 0);
        Boundaries.equal("with one task", 0, x.lastTask());
        x.removeTask(0);
        Boundaries.refuses("when it has gone", Boundaries.NOTHING, x::lastTask);
        x.undo();
        Boundaries.equal("when it is back", 0, x.lastTask());
        Twins.refused(Boundaries.check, Make::emptied, Boundaries.NOTHING, y -> y.lastTask());
    }

    private static void levelledLengths() {
        Boundaries.equal("without tasks", 0, new TaskLeveller().levelledLength());
        Boundaries.equal("the shortest", 1, Make.tasks(1).levelledLength());
        Boundaries.equal("the greatest of a chain", 138, Make.chain(12, 9, 30).levelledLength());
        TaskLeveller x = new TaskLeveller();
        x.setLimit(2, 5);
        for (int task = 0; task < 12; task++) {
            x.addTask(9, 2, 5, 30);
        }
        Boundaries.equal("the greatest by the limit", 138, x.levelledLength());
        Boundaries.equal("the project beside it", 39, x.projectLength());
        x.setLimit(2, 20);
        Boundaries.equal("by the highest limit", 57, x.levelledLength());
    }
}
