/** The sentences of promises 10 to 21 that name a boundary: what was set, and the dependencies. */
final class ReadingBoundaries {
    private static final String NO_TASK = "Throws `IndexOutOfBoundsException` if there is no such task";
    private static final String NO_TASKS = NO_TASK + ", for either argument";
    private static final String THE_SAME = "the index of the other task, possibly the same";

    private ReadingBoundaries() {
    }

    static void hold(Boundaries sentences) {
        sentences.promise(10, "Returns the number of tasks.", ReadingBoundaries::taskCount);
        sentences.promise(11, NO_TASK, () -> Boundaries.noSuchTask((x, task) -> x.duration(task)));
        sentences.promise(12, NO_TASK, () -> Boundaries.noSuchTask((x, task) -> x.resource(task)));
        sentences.promise(13, NO_TASK, () -> Boundaries.noSuchTask((x, task) -> x.demand(task)));
        sentences.promise(14, NO_TASK, () -> Boundaries.noSuchTask((x, task) -> x.release(task)));
        sentences.promise(15, "Throws `IllegalArgumentException` if there is no such resource",
                () -> Boundaries.noSuchResource((x, resource) -> x.limit(resource)));
        dependencies(sentences);
        counts(sentences);
        order(sentences);
    }

    private static void dependencies(Boundaries sentences) {
        sentences.promise(16, THE_SAME, () -> ofTheSame((x, task, needed) -> x.dependsDirectly(task, needed)));
        sentences.promise(16, NO_TASKS,
                () -> Boundaries.noSuchTasks((x, task, needed) -> x.dependsDirectly(task, needed)));
        sentences.promise(17, "Returns whether a task depends on another one, directly or through a chain, by "
                + "depth-first search.", () -> chains((x, task, needed) -> x.depends(task, needed)));
        sentences.promise(17, THE_SAME, () -> ofTheSame((x, task, needed) -> x.depends(task, needed)));
        sentences.promise(17, NO_TASKS, () -> Boundaries.noSuchTasks((x, task, needed) -> x.depends(task, needed)));
        sentences.promise(18, "Returns the same as depends, found by computing the transitive closure.",
                () -> chains((x, task, needed) -> x.dependsByClosure(task, needed)));
        sentences.promise(18, THE_SAME, () -> ofTheSame((x, task, needed) -> x.dependsByClosure(task, needed)));
        sentences.promise(18, NO_TASKS,
                () -> Boundaries.noSuchTasks((x, task, needed) -> x.dependsByClosure(task, needed)));
    }

    private static void counts(Boundaries sentences) {
        sentences.promise(19, "Returns on how many tasks a task depends directly.", ReadingBoundaries::neededCounts);
        sentences.promise(19, NO_TASK, () -> Boundaries.noSuchTask((x, task) -> x.neededCount(task)));
        sentences.promise(20, "Returns how many tasks depend directly on a task.", ReadingBoundaries::dependentCounts);
        sentences.promise(20, NO_TASK, () -> Boundaries.noSuchTask((x, task) -> x.dependentCount(task)));
    }

    private static void order(Boundaries sentences) {
        sentences.promise(21, "Returns the task at a position of an order in which each task comes behind the tasks on "
                + "which it depends: the next task is always the one with the lowest index among the tasks that can "
                + "come next.", ReadingBoundaries::lowestNext);
        sentences.promise(21, "the position, counted from 0", ReadingBoundaries::positions);
        sentences.promise(21, "Throws `NoSuchElementException` if there is no such position",
                () -> Boundaries.noSuchRank((x, position) -> x.taskInOrder(position)));
    }

    private static void taskCount() {
        TaskLeveller x = new TaskLeveller();
        Boundaries.equal("at first", 0, x.taskCount());
        for (int count = 1; count <= 12; count++) {
            x.addTask(1, 0, 1, 0);
            Boundaries.equal("after an added task", count, x.taskCount());
        }
        Boundaries.refuses("a 13th", Boundaries.STATE, () -> x.addTask(1, 0, 1, 0));
        Boundaries.equal("after a refusal", 12, x.taskCount());
        for (int count = 11; count >= 0; count--) {
            x.removeTask(0);
            Boundaries.equal("after a removed task", count, x.taskCount());
        }
    }

    /** No task depends on itself, however many dependencies there are. */
    private static void ofTheSame(Boundaries.AskTwo ask) {
        TaskLeveller none = Make.tasks(12);
        TaskLeveller all = Make.triangle(12);
        for (int task = 0; task < 12; task++) {
            Boundaries.equal(task + " on itself without dependencies", false, ask.of(none, task, task));
            Boundaries.equal(task + " on itself with all dependencies", false, ask.of(all, task, task));
        }
        Boundaries.equal("the neighbour", true, ask.of(all, 1, 0));
    }

    private static void chains(Boundaries.AskTwo ask) {
        TaskLeveller up = Make.chain(12, 1, 0);
        TaskLeveller down = Make.tasks(12);
        for (int task = 0; task < 11; task++) {
            down.addDependency(task, task + 1);
        }
        for (int task = 0; task < 12; task++) {
            for (int needed = 0; needed < 12; needed++) {
                String pair = task + " on " + needed;
                Boundaries.equal(pair + " in the longest chain upwards", task > needed, ask.of(up, task, needed));
                Boundaries.equal(pair + " in the longest chain downwards", task < needed, ask.of(down, task, needed));
            }
        }
        up.removeDependency(6, 5);
        Boundaries.equal("over a gap", false, ask.of(up, 11, 0));
        Boundaries.equal("up to the gap", true, ask.of(up, 11, 6));
        Boundaries.equal("behind the gap", true, ask.of(up, 5, 0));
        up.addDependency(11, 0);
        Boundaries.equal("beside the gap", true, ask.of(up, 11, 0));
        TaskLeveller zigzag = zigzag();
        for (int needed = 0; needed < 12; needed++) {
            Boundaries.equal("6 at the end of a zigzag on " + needed, needed != 6, ask.of(zigzag, 6, needed));
        }
    }

    /** A chain 6, 5, 7, 4, 8, 3, 9, 2, 10, 1, 11, 0: each one depends on the next. */
    private static TaskLeveller zigzag() {
        TaskLeveller x = Make.tasks(12);
        int[] chain = {6, 5, 7, 4, 8, 3, 9, 2, 10, 1, 11, 0};
        for (int place = 0; place < 11; place++) {
            x.addDependency(chain[place], chain[place + 1]);
        }
        return x;
    }

    private static void neededCounts() {
        TaskLeveller x = Make.triangle(12);
        for (int task = 0; task < 12; task++) {
            Boundaries.equal("with all dependencies, of " + task, task, x.neededCount(task));
        }
        TaskLeveller chain = Make.chain(12, 1, 0);
        Boundaries.equal("at the end of a chain", 1, chain.neededCount(11));
        Boundaries.equal("at its beginning", 0, chain.neededCount(0));
        chain.removeTask(10);
        Boundaries.equal("when the needed one is removed", 0, chain.neededCount(10));
    }

    private static void dependentCounts() {
        TaskLeveller x = Make.triangle(12);
        for (int task = 0; task < 12; task++) {
            Boundaries.equal("with all dependencies, of " + task, 11 - task, x.dependentCount(task));
        }
        TaskLeveller chain = Make.chain(12, 1, 0);
        Boundaries.equal("at the beginning of a chain", 1, chain.dependentCount(0));
        Boundaries.equal("at its end", 0, chain.dependentCount(11));
        chain.removeTask(11);
        Boundaries.equal("when the dependent one is removed", 0, chain.dependentCount(10));
    }

    private static void order(String what, TaskLeveller x, int... due) {
        for (int position = 0; position < due.length; position++) {
            Boundaries.equal(what + " at " + position, due[position], x.taskInOrder(position));
        }
    }

    private static void lowestNext() {
        order("without dependencies", Make.tasks(4), 0, 1, 2, 3);
        order("all dependencies", Make.triangle(4), 0, 1, 2, 3);
        TaskLeveller x = Make.tasks(4);
        x.addDependency(0, 3);
        order("the first one waits for the last", x, 1, 2, 3, 0);
        x.addDependency(1, 2);
        order("a lower one can come before a higher that was ready", x, 2, 1, 3, 0);
        x.addDependency(1, 3);
        order("two can come at once", x, 2, 3, 0, 1);
        order("a zigzag through all", zigzag(), 0, 11, 1, 10, 2, 9, 3, 8, 4, 7, 5, 6);
        order("one task", Make.tasks(1), 0);
    }

    private static void positions() {
        TaskLeveller x = Make.tasks(12);
        for (int task = 0; task < 11; task++) {
            x.addDependency(task, task + 1);
        }
        Boundaries.equal("position 0", 11, x.taskInOrder(0));
        Boundaries.equal("position 1", 10, x.taskInOrder(1));
        Boundaries.equal("position 11", 0, x.taskInOrder(11));
        Boundaries.refuses("position 12", Boundaries.NOTHING, () -> x.taskInOrder(12));
    }
}
