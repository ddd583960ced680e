/** The sentences of promises 32 to 37 that name a boundary: usage and workload. */
final class LevellingBoundaries {
    private static final String NO_RESOURCE = "Throws `IllegalArgumentException` if there is no such resource";
    private static final String NO_RESOURCE_OR_DAY = NO_RESOURCE + ", or day is negative";

    private LevellingBoundaries() {
    }

    static void hold(Boundaries sentences) {
        sentences.promise(32, "Returns the number of units, 0 for a day after the levelled length.",
                () -> afterTheLength((x, resource, day) -> x.usage(resource, day)));
        sentences.promise(32, NO_RESOURCE_OR_DAY, () -> wrongUsage((x, resource, day) -> x.usage(resource, day)));
        sentences.promise(33, "Returns the same number as usage, found by asking each task whether it is worked on "
                + "that day.", () -> afterTheLength((x, resource, day) -> x.usageByTasks(resource, day)));
        sentences.promise(33, NO_RESOURCE_OR_DAY,
                () -> wrongUsage((x, resource, day) -> x.usageByTasks(resource, day)));
        sentences.promise(34, "Returns the greatest usage of a resource on any day.", LevellingBoundaries::peaks);
        sentences.promise(34, "Returns the number of units, 0 if no task demands it.", LevellingBoundaries::noPeak);
        sentences.promise(34, NO_RESOURCE, () -> Boundaries.noSuchResource((x, resource) -> x.peakUsage(resource)));
        sentences.promise(35, "Returns how many tasks are worked on a day by levelled starts.",
                LevellingBoundaries::workedOn);
        sentences.promise(35, "Throws `IllegalArgumentException` if day is negative",
                () -> Boundaries.negativeDay((x, day) -> x.tasksOn(day)));
        sentences.promise(36, "Returns the sum of duration times demand of the tasks that demand a resource.",
                () -> sums((x, resource) -> x.workload(resource)));
        sentences.promise(36, NO_RESOURCE, () -> Boundaries.noSuchResource((x, resource) -> x.workload(resource)));
        sentences.promise(37, "Returns the same sum as workload, found by adding the usage of all days.",
                () -> sums((x, resource) -> x.workloadByDays(resource)));
        sentences.promise(37, NO_RESOURCE,
                () -> Boundaries.noSuchResource((x, resource) -> x.workloadByDays(resource)));
    }

    private static void days(String what, TaskLeveller x, Boundaries.AskTwo ask, int resource, int... daysAndUnits) {
        for (int place = 0; place + 1 < daysAndUnits.length; place += 2) {
            int day = daysAndUnits[place];
            Boundaries.equal(what + ", resource " + resource + " on " + day, daysAndUnits[place + 1],
                    ask.of(x, resource, day));
        }
    }

    private static void afterTheLength(Boundaries.AskTwo ask) {
        TaskLeveller x = new TaskLeveller();
        days("without tasks", x, ask, 0, 0, 0, 1, 0, Integer.MAX_VALUE, 0);
        x.addTask(2, 1, 3, 4);
        days("one task on days 4 and 5", x, ask, 1, 0, 0, 3, 0, 4, 3, 5, 3, 6, 0, 7, 0, Integer.MAX_VALUE, 0);
        days("one task on days 4 and 5", x, ask, 0, 4, 0, 5, 0);
        days("one task on days 4 and 5", x, ask, 2, 4, 0, 5, 0);
        TaskLeveller longest = Make.chain(12, 9, 30);
        int[] due = {29, 0, 30, 5, 137, 5, 138, 0, 139, 0, 140, 0, 200, 0, 276, 0, 414, 0, 65536, 0,
            Integer.MAX_VALUE - 138, 0, Integer.MAX_VALUE, 0};
        days("the longest project", longest, ask, 0, due);
        for (int task = 0; task < 12; task++) {
            longest.removeTask(0);
            longest.addTask(9, 2, 5, 30);
        }
        longest.setLimit(2, 5);
        days("the longest project", longest, ask, 2, due);
        days("the longest project", longest, ask, 1, 0, 0, 30, 0, 137, 0, 138, 0);
        for (int resource = 0; resource < 3; resource++) {
            TaskLeveller full = everyDay();
            for (int day = 39; day < 450; day++) {
                Boundaries.equal("resource " + resource + " on " + day, 0, ask.of(full, resource, day));
            }
        }
    }

    /** Each resource is demanded on every day from 0 to 35. */
    private static TaskLeveller everyDay() {
        TaskLeveller x = new TaskLeveller();
        for (int task = 0; task < 12; task++) {
            x.addTask(9, task % 3, 5, task / 3 * 9);
        }
        Boundaries.equal("the length", 36, x.levelledLength());
        return x;
    }

    private static void wrongUsage(Boundaries.AskTwo ask) {
        Boundaries.noSuchResource((x, resource) -> ask.of(x, resource, 0));
        for (int number = 0; number < 3; number++) {
            int resource = number;
            Boundaries.negativeDay((x, day) -> ask.of(x, resource, day));
        }
        Boundaries.refuses("both wrong", Boundaries.ARGUMENT, () -> ask.of(Make.tasks(1), 3, -1));
        // A day of the next or the previous resource's row must not be read.
        Boundaries.refuses("a day before resource 1", Boundaries.ARGUMENT, () -> ask.of(Make.tasks(1), 1, -138));
    }

    private static void peaks() {
        Boundaries.equal("the lowest", 1, Make.tasks(1).peakUsage(0));
        Boundaries.equal("on the very last day that there can be", 5, lastDay().peakUsage(0));
        TaskLeveller x = Make.tasks(12);
        Boundaries.equal("up to the limit", 10, x.peakUsage(0));
        x.setLimit(0, 20);
        Boundaries.equal("of all twelve", 12, x.peakUsage(0));
        for (int task = 0; task < 12; task++) {
            x.removeTask(0);
            x.addTask(2, 2, 5, 0);
        }
        x.setLimit(2, 20);
        Boundaries.equal("the highest", 20, x.peakUsage(2));
        Boundaries.equal("of the other two", 0, x.peakUsage(0) + x.peakUsage(1));
        x.setLimit(2, 5);
        Boundaries.equal("at the lowest limit", 5, x.peakUsage(2));
    }

    /** The demand is 1 on each day but the last one of the longest project. */
    private static TaskLeveller lastDay() {
        TaskLeveller x = new TaskLeveller();
        for (int task = 0; task < 12; task++) {
            x.addTask(9, 0, task < 11 ? 1 : 5, 30);
            if (task > 0) {
                x.addDependency(task, task - 1);
            }
        }
        Boundaries.equal("day 128", 1, x.usage(0, 128));
        Boundaries.equal("day 137", 5, x.usage(0, 137));
        return x;
    }

    private static void noPeak() {
        TaskLeveller x = new TaskLeveller();
        for (int resource = 0; resource < 3; resource++) {
            Boundaries.equal("without tasks", 0, x.peakUsage(resource));
        }
        x.addTask(9, 1, 5, 0);
        Boundaries.equal("of resource 0", 0, x.peakUsage(0));
        Boundaries.equal("of the demanded one", 5, x.peakUsage(1));
        Boundaries.equal("of resource 2", 0, x.peakUsage(2));
        x.removeTask(0);
        Boundaries.equal("of the one that is no longer demanded", 0, x.peakUsage(1));
    }

    private static void workedOn() {
        TaskLeveller x = new TaskLeveller();
        Boundaries.equal("without tasks", 0, x.tasksOn(0));
        x.addTask(2, 0, 1, 3);
        Boundaries.equal("the day before", 0, x.tasksOn(2));
        Boundaries.equal("the first day", 1, x.tasksOn(3));
        Boundaries.equal("the last day", 1, x.tasksOn(4));
        Boundaries.equal("the day after", 0, x.tasksOn(5));
        TaskLeveller all = Make.tasks(12);
        Boundaries.equal("up to the limit", 10, all.tasksOn(0));
        Boundaries.equal("the rest", 2, all.tasksOn(1));
        Boundaries.equal("after all", 0, all.tasksOn(2));
        all.setLimit(0, 12);
        Boundaries.equal("all twelve", 12, all.tasksOn(0));
        Boundaries.equal("none", 0, all.tasksOn(1));
        TaskLeveller longest = Make.chain(12, 9, 30);
        Boundaries.equal("the last day of all", 1, longest.tasksOn(137));
        Boundaries.equal("the day behind it", 0, longest.tasksOn(138));
        Boundaries.equal("the farthest day", 0, longest.tasksOn(Integer.MAX_VALUE));
    }

    private static void sums(Boundaries.Ask ask) {
        TaskLeveller x = new TaskLeveller();
        for (int resource = 0; resource < 3; resource++) {
            Boundaries.equal("without tasks", 0, ask.of(x, resource));
        }
        for (int task = 0; task < 12; task++) {
            x.addTask(9, 2, 5, 30);
        }
        Boundaries.equal("the greatest", 540, ask.of(x, 2));
        Boundaries.equal("of one that no task demands", 0, ask.of(x, 1));
        x.setLimit(2, 5);
        Boundaries.equal("the greatest over the most days", 540, ask.of(x, 2));
        Boundaries.equal("of a chain up to the last day", 540, ask.of(Make.chain(12, 9, 30), 0));
        Boundaries.equal("the lowest", 1, ask.of(Make.tasks(1), 0));
        x.removeTask(0);
        Boundaries.equal("without the first one", 495, ask.of(x, 2));
    }
}
