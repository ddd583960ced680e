/** The sentences of the terms that name a boundary, up to the baseline. */
final class TermsBoundaries {
    private TermsBoundaries() {
    }

    static void hold(Boundaries sentences) {
        sentences.opening(1, "An object is used for at most 512 calls after it has been made; what later calls answer "
                + "is free.", TermsBoundaries::manyCalls);
        tasks(sentences);
        starts(sentences);
        levelling(sentences);
        baseline(sentences);
    }

    private static void tasks(Boundaries sentences) {
        sentences.term(2, "There are at most 12 tasks, with the indices 0 to n - 1 in the order in which they were "
                + "added; when a task is removed, the indices of the tasks that were added later decrease by 1.",
                TermsBoundaries::indices);
        sentences.term(2, "A task has a duration from 1 to 9 days, a demand from 1 to 5 units of one of the resources "
                + "0 to 2 on each day on which it is worked on, and a release day from 0 to 30.",
                TermsBoundaries::corners);
        sentences.term(32, "Days are counted from 0.", TermsBoundaries::dayZero);
        sentences.term(17, "A task can depend on other tasks, directly or through a chain of direct dependencies.",
                TermsBoundaries::allDependencies);
        sentences.term(4, "No task depends on itself.", TermsBoundaries::notOnItself);
        sentences.term(3, "When a task is removed, the direct dependencies in which it takes part are removed, too.",
                TermsBoundaries::removedDependencies);
    }

    private static void starts(Boundaries sentences) {
        sentences.term(22, "The earliest start of a task is the lowest day that is not less than its release day and "
                + "not less than the finish of each task on which it depends directly, where the finish is the "
                + "earliest start plus the duration.", TermsBoundaries::earliest);
        sentences.term(27, "The length of the project is the greatest finish of all tasks, 0 without tasks.",
                TermsBoundaries::greatestFinish);
        sentences.term(24, "The latest start of a task is the greatest day such that the task, started then, finishes "
                + "not later than the latest start of each task that depends on it directly, and not later than the "
                + "length of the project.", TermsBoundaries::latest);
        sentences.term(25, "The slack of a task is its latest start minus its earliest start.",
                TermsBoundaries::slack);
        sentences.term(26, "A task is critical if its slack is 0.", TermsBoundaries::critical);
    }

    private static void levelling(Boundaries sentences) {
        sentences.term(8, "Each resource has a limit from 5 to 20 units, initially 10.", TermsBoundaries::limits);
        sentences.term(30, "The next task is, among the tasks that are not placed and all of whose direct dependencies "
                + "are placed, the one with the lowest latest start, then with the lowest index.",
                TermsBoundaries::nextTask);
        sentences.term(30, "It is placed at the lowest day that is not less than its release day, not less than the "
                + "levelled finish of each task on which it depends directly, and such that on each of its days the "
                + "demand of the placed tasks for its resource plus its own demand is at most the limit.",
                TermsBoundaries::lowestDay);
        sentences.term(30, "The levelled finish is the levelled start plus the duration.",
                TermsBoundaries::levelledFinish);
        sentences.term(31, "The levelled length is the greatest levelled finish of all tasks, 0 without tasks.",
                TermsBoundaries::levelledLength);
        sentences.term(30, "A task can thereby be placed before tasks that were placed earlier.",
                TermsBoundaries::placedBefore);
    }

    private static void baseline(Boundaries sentences) {
        sentences.term(9, "The baseline is a copy of the levelled starts of all tasks at some moment.",
                TermsBoundaries::copiedStarts);
        sentences.term(38, "Initially there is none.", TermsBoundaries::noBaseline);
        sentences.term(9, "If it is taken without tasks, there is a baseline without starts.",
                TermsBoundaries::baselineWithoutStarts);
        sentences.term(39, "A task that is added later has no baseline start.", TermsBoundaries::addedLater);
        sentences.term(39, "When a task is removed, its baseline start is removed, too.",
                TermsBoundaries::removedStart);
        sentences.term(40, "The drift of a task is its levelled start minus its baseline start.",
                TermsBoundaries::drift);
    }

    private static void manyCalls() {
        TaskLeveller x = Make.triangle(12);
        // Twelve tasks and 66 dependencies were 78 calls.
        for (int call = 79; call < 511; call += 2) {
            int duration = call % 9 + 1;
            x.setDuration(0, duration);
            Boundaries.equal("call " + (call + 1), duration + 10, x.levelledStart(11));
        }
        Boundaries.equal("the 511th call", 7, x.undo());
        Boundaries.equal("the 512th call", 507 % 9 + 1 + 10, x.levelledStart(11));
        TaskLeveller changed = Make.tasks(1);
        for (int call = 2; call < 511; call++) {
            changed.setDuration(0, call % 9 + 1);
        }
        Boundaries.equal("the 511th call behind 510 changes", 7, changed.undo());
        Boundaries.equal("the 512th call behind them", 509 % 9 + 1, changed.duration(0));
        TaskLeveller typed = new TaskLeveller();
        for (int round = 0; round < 8; round++) {
            Make.type(typed, "mark;mark;mark;mark;mark;mark;mark;mark;mark;mark;mark;mark?");
            Boundaries.refuses("a wrong script", Boundaries.ARGUMENT, typed::runScript);
        }
        for (int call = 489; call < 512; call++) {
            Boundaries.equal("one of the last 24 calls", call - 488, typed.type('m'));
        }
        Boundaries.equal("the 512th call", 24, typed.type('m'));
    }

    private static void indices() {
        TaskLeveller x = new TaskLeveller();
        for (int task = 0; task < 12; task++) {
            int next = task;
            Boundaries.refuses("index n", Boundaries.INDEX, () -> x.release(next));
            Boundaries.equal("the index", task, x.addTask(1, 0, 1, task));
            Boundaries.equal("what was added at index n - 1", task, x.release(task));
        }
        Boundaries.refuses("a 13th task", Boundaries.STATE, () -> x.addTask(1, 0, 1, 12));
        Boundaries.refuses("index 12", Boundaries.INDEX, () -> x.release(12));
        x.removeTask(5);
        Boundaries.equal("the one before", 4, x.release(4));
        Boundaries.equal("the one behind", 6, x.release(5));
        Boundaries.equal("the last one", 11, x.release(10));
        Boundaries.refuses("the last one's old index", Boundaries.INDEX, () -> x.release(11));
        x.removeTask(10);
        Boundaries.equal("when the last one has gone, the one before", 10, x.release(9));
        x.removeTask(0);
        Boundaries.equal("when the first one has gone, the new first", 1, x.release(0));
        Boundaries.equal("when the first one has gone, the last", 10, x.release(8));
        Boundaries.equal("an added one", 9, x.addTask(1, 0, 1, 30));
        Boundaries.equal("its release day", 30, x.release(9));
    }

    private static void corners() {
        TaskLeveller x = new TaskLeveller();
        x.addTask(1, 0, 1, 0);
        x.addTask(9, 2, 5, 30);
        worked(x, 0, 1, 0, 1);
        worked(x, 2, 5, 30, 39);
        Boundaries.refuses("a duration of 0", Boundaries.ARGUMENT, () -> x.addTask(0, 0, 1, 0));
        Boundaries.refuses("a duration of 10", Boundaries.ARGUMENT, () -> x.addTask(10, 0, 1, 0));
        Boundaries.refuses("a demand of 0", Boundaries.ARGUMENT, () -> x.addTask(1, 0, 0, 0));
        Boundaries.refuses("a demand of 6", Boundaries.ARGUMENT, () -> x.addTask(1, 0, 6, 0));
        Boundaries.refuses("resource -1", Boundaries.ARGUMENT, () -> x.addTask(1, -1, 1, 0));
        Boundaries.refuses("resource 3", Boundaries.ARGUMENT, () -> x.addTask(1, 3, 1, 0));
        Boundaries.refuses("release day -1", Boundaries.ARGUMENT, () -> x.addTask(1, 0, 1, -1));
        Boundaries.refuses("release day 31", Boundaries.ARGUMENT, () -> x.addTask(1, 0, 1, 31));
        Boundaries.equal("the tasks after the refusals", 2, x.taskCount());
    }

    private static void worked(TaskLeveller x, int resource, int demand, int start, int finish) {
        for (int day = 0; day < 45; day++) {
            int due = day >= start && day < finish ? demand : 0;
            Boundaries.equal("resource " + resource + " on day " + day, due, x.usage(resource, day));
        }
    }

    private static void dayZero() {
        TaskLeveller x = Make.tasks(1);
        Boundaries.equal("the earliest start", 0, x.earliestStart(0));
        Boundaries.equal("the latest start", 0, x.latestStart(0));
        Boundaries.equal("the levelled start", 0, x.levelledStart(0));
        Boundaries.equal("usage on day 0", 1, x.usage(0, 0));
        Boundaries.equal("usage on day 1", 0, x.usage(0, 1));
        Boundaries.refuses("usage on day -1", Boundaries.ARGUMENT, () -> x.usage(0, -1));
        x.setRelease(0, 1);
        Boundaries.equal("the length when day 0 is empty", 2, x.projectLength());
    }

    private static void allDependencies() {
        TaskLeveller all = Make.triangle(12);
        TaskLeveller chain = Make.chain(12, 1, 0);
        Boundaries.equal("directly on all others", 11, all.neededCount(11));
        Boundaries.equal("directly on one alone", 1, chain.neededCount(11));
        for (int needed = 0; needed < 11; needed++) {
            Boundaries.equal("directly on " + needed, true, all.dependsDirectly(11, needed));
            Boundaries.equal("through a chain on " + needed, true, chain.depends(11, needed));
            Boundaries.equal("through a chain, directly on " + needed, needed == 10, chain.dependsDirectly(11, needed));
        }
    }

    private static void notOnItself() {
        TaskLeveller x = Make.triangle(12);
        for (int number = 0; number < 12; number++) {
            int task = number;
            Boundaries.refuses(task + " on itself", Boundaries.ARGUMENT, () -> x.addDependency(task, task));
            Boundaries.equal("whether " + task + " does directly", false, x.dependsDirectly(task, task));
            Boundaries.equal("whether " + task + " does", false, x.depends(task, task));
            Boundaries.equal("whether " + task + " does by closure", false, x.dependsByClosure(task, task));
        }
        for (int number = 1; number < 12; number++) {
            int task = number;
            Boundaries.refuses("a circle over 0 and " + task, Boundaries.UNSUPPORTED, () -> x.addDependency(0, task));
        }
        TaskLeveller chain = Make.chain(12, 1, 0);
        Boundaries.refuses("a circle of all twelve", Boundaries.UNSUPPORTED, () -> chain.addDependency(0, 11));
        Boundaries.equal("whether 0 depends on itself then", false, chain.depends(0, 0));
    }

    private static void removedDependencies() {
        for (int gone = 0; gone < 12; gone++) {
            TaskLeveller all = Make.triangle(12);
            all.removeTask(gone);
            for (int task = 0; task < 11; task++) {
                Boundaries.equal("when " + gone + " has gone, what " + task + " needs", task, all.neededCount(task));
                Boundaries.equal("when " + gone + " has gone, the dependents of " + task, 10 - task,
                        all.dependentCount(task));
            }
            TaskLeveller down = Make.tasks(12);
            for (int task = 0; task < 11; task++) {
                down.addDependency(task, 11);
            }
            down.removeTask(gone);
            Boundaries.equal("when " + gone + " has gone, what 0 needs", gone < 11 ? 1 : 0, down.neededCount(0));
            Boundaries.equal("when " + gone + " has gone, what 9 needs", gone < 11 ? 1 : 0, down.neededCount(9));
            Boundaries.equal("when " + gone + " has gone, the dependents of 10", gone < 11 ? 10 : 0,
                    down.dependentCount(10));
            TaskLeveller chain = Make.chain(12, 1, 0);
            chain.removeTask(gone);
            for (int task = 1; task < 11; task++) {
                Boundaries.equal("when " + gone + " has gone, the chain at " + task, task == gone ? 0 : 1,
                        chain.neededCount(task));
                Boundaries.equal("when " + gone + " has gone, " + task + " on the one before", task != gone,
                        chain.dependsDirectly(task, task - 1));
            }
            Boundaries.equal("when " + gone + " has gone, the last one on the first", gone == 0 || gone == 11,
                    chain.depends(10, 0));
        }
    }

    private static void earliest() {
        TaskLeveller x = new TaskLeveller();
        x.addTask(5, 0, 1, 4);
        x.addTask(1, 0, 1, 0);
        x.addDependency(1, 0);
        int[] releases = {0, 8, 9, 10, 30};
        int[] due = {9, 9, 9, 10, 30};
        for (int place = 0; place < releases.length; place++) {
            x.setRelease(1, releases[place]);
            Boundaries.equal("finish 9, release " + releases[place], due[place], x.earliestStart(1));
            Boundaries.equal("by rounds", due[place], x.earliestStartByRounds(1));
        }
        Boundaries.equal("of the needed one", 4, x.earliestStart(0));
        x.setRelease(1, 0);
        x.addTask(9, 0, 1, 1);
        x.addDependency(1, 2);
        Boundaries.equal("finishes 9 and 10", 10, x.earliestStart(1));
        x.setDuration(2, 8);
        Boundaries.equal("finishes 9 and 9", 9, x.earliestStart(1));
        x.setDuration(2, 7);
        Boundaries.equal("finishes 9 and 8", 9, x.earliestStart(1));
        x.removeDependency(1, 0);
        x.removeDependency(1, 2);
        Boundaries.equal("without dependencies", 0, x.earliestStart(1));
        x.setRelease(1, 30);
        Boundaries.equal("without dependencies, released last", 30, x.earliestStart(1));
    }

    private static void greatestFinish() {
        TaskLeveller x = new TaskLeveller();
        Boundaries.equal("without tasks", 0, x.projectLength());
        x.addTask(5, 0, 1, 0);
        Boundaries.equal("of one", 5, x.projectLength());
        x.addTask(4, 0, 1, 0);
        Boundaries.equal("with a lower one behind", 5, x.projectLength());
        x.addTask(4, 0, 1, 1);
        Boundaries.equal("with an equal one", 5, x.projectLength());
        x.addTask(1, 0, 1, 5);
        Boundaries.equal("with a greater one by its release", 6, x.projectLength());
        x.addDependency(1, 3);
        Boundaries.equal("with a greater one by a dependency", 10, x.projectLength());
        x.setLimit(0, 5);
        x.addTask(9, 0, 5, 0);
        x.addTask(9, 0, 5, 0);
        Boundaries.equal("not that of the levelled starts", 10, x.projectLength());
        for (int task = 0; task < 6; task++) {
            x.removeTask(0);
        }
        Boundaries.equal("without tasks again", 0, x.projectLength());
    }

    private static void latest() {
        TaskLeveller x = new TaskLeveller();
        x.addTask(2, 0, 1, 0);
        Boundaries.equal("of a single one", 0, x.latestStart(0));
        x.addTask(9, 1, 1, 30);
        Boundaries.equal("finishes with the project", 37, x.latestStart(0));
        x.addTask(4, 0, 1, 0);
        x.addDependency(2, 0);
        Boundaries.equal("of the dependent", 35, x.latestStart(2));
        Boundaries.equal("finishes at the dependent's latest start", 33, x.latestStart(0));
        x.addTask(5, 0, 1, 0);
        x.addDependency(3, 0);
        Boundaries.equal("of two dependents, the earlier", 32, x.latestStart(0));
        x.addDependency(1, 0);
        Boundaries.equal("of three dependents, the earliest", 28, x.latestStart(0));
        x.addDependency(2, 1);
        Boundaries.equal("the critical one", 30, x.latestStart(1));
        Boundaries.equal("the one behind it", 39, x.latestStart(2));
        TaskLeveller chain = Make.chain(12, 9, 30);
        Boundaries.equal("the last of the longest project", 129, chain.latestStart(11));
        Boundaries.equal("the first of the longest project", 30, chain.latestStart(0));
    }

    private static void slack() {
        TaskLeveller x = new TaskLeveller();
        x.addTask(3, 0, 1, 2);
        Boundaries.equal("of a single one, released later", 0, x.slack(0));
        x.addTask(9, 1, 1, 30);
        Boundaries.equal("up to the project's end", 34, x.slack(0));
        x.setRelease(0, 30);
        Boundaries.equal("with the same release", 6, x.slack(0));
        x.setDuration(0, 9);
        Boundaries.equal("with the same finish", 0, x.slack(0));
        x.setDuration(0, 1);
        x.setRelease(0, 0);
        Boundaries.equal("of the shortest one, released at once", 38, x.slack(0));
        x.setLimit(0, 5);
        x.addTask(5, 0, 5, 0);
        Boundaries.equal("the levelled start by another task", 5, x.levelledStart(0));
        Boundaries.equal("the slack, not by the levelled start", 38, x.slack(0));
    }

    private static void critical() {
        TaskLeveller x = new TaskLeveller();
        x.addTask(9, 0, 1, 0);
        x.addTask(8, 1, 1, 0);
        x.addTask(8, 2, 1, 0);
        x.setRelease(2, 1);
        Boundaries.equal("slack 0", true, x.isCritical(0));
        Boundaries.equal("slack 1", false, x.isCritical(1));
        Boundaries.equal("slack 0 by the release", true, x.isCritical(2));
        x.addDependency(1, 2);
        Boundaries.equal("the longest now is 1", true, x.isCritical(1));
        Boundaries.equal("what it waits for", true, x.isCritical(2));
        Boundaries.equal("a slack of more days", false, x.isCritical(0));
        Boundaries.equal("all of the longest chain", true, Make.chain(12, 9, 30).isCritical(0));
    }

    private static void limits() {
        TaskLeveller x = new TaskLeveller();
        for (int number = 0; number < 3; number++) {
            int resource = number;
            Boundaries.equal("initially", 10, x.limit(resource));
            Boundaries.equal("the initial one", 10, x.setLimit(resource, 5));
            Boundaries.equal("the lowest", 5, x.limit(resource));
            Boundaries.accepts("the highest", () -> x.setLimit(resource, 20));
            Boundaries.equal("the highest", 20, x.limit(resource));
            Boundaries.refuses("4", Boundaries.ARGUMENT, () -> x.setLimit(resource, 4));
            Boundaries.refuses("21", Boundaries.ARGUMENT, () -> x.setLimit(resource, 21));
            Boundaries.equal("after the refusals", 20, x.limit(resource));
        }
        TaskLeveller y = new TaskLeveller();
        y.addTask(1, 1, 5, 0);
        y.addTask(1, 1, 5, 0);
        Boundaries.equal("two of 5 units by the initial limit", 1, y.levelledLength());
        y.addTask(1, 1, 1, 0);
        Boundaries.equal("and one of 1", 2, y.levelledLength());
    }

    private static void starts(String what, TaskLeveller x, int... due) {
        for (int task = 0; task < due.length; task++) {
            Boundaries.equal(what + ", the levelled start of " + task, due[task], x.levelledStart(task));
        }
    }

    private static void nextTask() {
        TaskLeveller x = new TaskLeveller();
        x.setLimit(0, 5);
        for (int task = 0; task < 12; task++) {
            x.addTask(1, 0, 5, 0);
        }
        starts("all equal", x, 0, 1, 2, 3, 4, 5, 6, 7, 8, 9, 10, 11);
        x.setDuration(11, 2);
        starts("the last one more urgent by a day", x, 2, 3, 4, 5, 6, 7, 8, 9, 10, 11, 12, 0);
        x.setDuration(5, 2);
        starts("two equally urgent", x, 4, 5, 6, 7, 8, 0, 9, 10, 11, 12, 13, 2);
        TaskLeveller y = new TaskLeveller();
        y.setLimit(0, 5);
        y.addTask(1, 0, 5, 0);
        y.addTask(2, 0, 5, 0);
        y.addTask(9, 1, 5, 1);
        y.addDependency(1, 0);
        y.addTask(2, 0, 5, 0);
        // 1 and 3 have day 8 as their latest start, 0 has day 7: then 1 comes before 3.
        starts("the dependencies are placed", y, 0, 1, 1, 3);
        y.removeDependency(1, 0);
        y.addDependency(0, 3);
        // 3 has day 7 now, 1 day 8 and 0 day 9: 0 waits for 3, but 1 does not.
        starts("the dependencies are placed first", y, 4, 2, 1, 0);
        TaskLeveller z = new TaskLeveller();
        z.setLimit(0, 5);
        z.addTask(1, 0, 5, 0);
        z.addTask(1, 0, 5, 0);
        z.addTask(9, 0, 1, 0);
        z.addDependency(2, 1);
        z.addDependency(1, 0);
        z.addTask(5, 0, 5, 0);
        // 3 has day 6, so each of the chain's three is more urgent, though 2 waits for them.
        starts("a chain more urgent than another", z, 0, 1, 2, 11);
    }

    private static void lowestDay() {
        TaskLeveller x = new TaskLeveller();
        x.addTask(2, 0, 5, 0);
        x.addTask(2, 0, 5, 0);
        starts("at most the limit", x, 0, 0);
        x.setLimit(0, 9);
        starts("one unit over the limit", x, 0, 2);
        x.setRelease(1, 1);
        starts("the limit behind the release", x, 0, 2);
        x.setRelease(1, 2);
        starts("the limit and the release", x, 0, 2);
        x.setRelease(1, 3);
        starts("the release behind the limit", x, 0, 3);
        x.addTask(4, 1, 1, 0);
        x.addDependency(1, 2);
        starts("the needed finish behind the release", x, 0, 4, 0);
        x.setDuration(2, 3);
        starts("the needed finish and the release", x, 0, 3, 0);
        x.setDuration(2, 1);
        x.setRelease(1, 0);
        starts("the limit behind the needed finish", x, 0, 2, 0);
        levelledNeeds();
        TaskLeveller y = new TaskLeveller();
        y.setLimit(2, 5);
        y.addTask(9, 2, 5, 30);
        y.addTask(9, 2, 5, 0);
        starts("a day that is free up to another's first day", y, 30, 0);
        y.setRelease(1, 21);
        starts("the last day from which it fits before", y, 30, 21);
        y.setRelease(1, 22);
        starts("one day more", y, 30, 39);
        TaskLeveller full = new TaskLeveller();
        full.setLimit(1, 5);
        for (int task = 0; task < 12; task++) {
            full.addTask(9, 1, 5, 30);
        }
        starts("up to the last day of all", full, 30, 39, 48, 57, 66, 75, 84, 93, 102, 111, 120, 129);
        TaskLeveller other = new TaskLeveller();
        other.setLimit(0, 5);
        other.addTask(1, 0, 5, 0);
        other.addTask(1, 1, 5, 0);
        other.addTask(1, 2, 5, 0);
        starts("another resource does not count", other, 0, 0, 0);
    }

    private static void levelledNeeds() {
        TaskLeveller x = new TaskLeveller();
        x.setLimit(0, 5);
        x.addTask(4, 0, 5, 0);
        x.addTask(4, 0, 5, 0);
        x.addTask(1, 1, 5, 3);
        x.addDependency(2, 1);
        x.addDependency(2, 0);
        Boundaries.equal("the earliest start behind two", 4, x.earliestStart(2));
        starts("the needed levelled finish behind the earliest one", x, 0, 4, 8);
        x.setRelease(2, 8);
        starts("the needed levelled finish and the release", x, 0, 4, 8);
        x.setRelease(2, 9);
        starts("the release behind the needed levelled finish", x, 0, 4, 9);
    }

    private static void levelledFinish() {
        TaskLeveller x = new TaskLeveller();
        x.setLimit(0, 5);
        x.addTask(9, 0, 5, 0);
        x.addTask(9, 0, 5, 0);
        x.addTask(1, 1, 5, 0);
        x.addDependency(2, 1);
        x.addDependency(2, 0);
        starts("at the finish of the one placed last", x, 0, 9, 18);
        x.setDuration(1, 1);
        starts("a day after a start", x, 0, 9, 10);
        Boundaries.equal("the last day of 0", 1, x.tasksOn(8));
        Boundaries.equal("the day of 1", 5, x.usage(0, 9));
        Boundaries.equal("the day behind 1", 0, x.usage(0, 10));
        Boundaries.equal("the length", 11, x.levelledLength());
    }

    private static void levelledLength() {
        TaskLeveller x = new TaskLeveller();
        Boundaries.equal("without tasks", 0, x.levelledLength());
        x.addTask(9, 0, 1, 0);
        x.addTask(1, 0, 1, 7);
        Boundaries.equal("of the first one, which starts first and finishes last", 9, x.levelledLength());
        x.setRelease(1, 8);
        Boundaries.equal("of two that finish at once", 9, x.levelledLength());
        x.setRelease(1, 9);
        Boundaries.equal("of the later one", 10, x.levelledLength());
        x.setRelease(1, 30);
        Boundaries.equal("of a late one", 31, x.levelledLength());
        x.removeTask(1);
        Boundaries.equal("when it has gone", 9, x.levelledLength());
        x.removeTask(0);
        Boundaries.equal("without tasks again", 0, x.levelledLength());
    }

    private static void placedBefore() {
        TaskLeveller x = new TaskLeveller();
        x.setLimit(0, 5);
        x.addTask(9, 0, 5, 3);
        x.addTask(3, 0, 5, 0);
        x.addTask(1, 0, 5, 0);
        // 0 is placed first, 1 fills the gap before it, and 2 has no room there.
        starts("a gap just wide enough", x, 3, 0, 12);
        x.setDuration(1, 2);
        starts("a gap with room for two", x, 3, 0, 2);
        x.setDuration(1, 4);
        starts("a gap too narrow for one of two", x, 3, 12, 0);
    }

    private static void copiedStarts() {
        TaskLeveller x = Make.chain(12, 9, 30);
        x.takeBaseline();
        for (int task = 0; task < 12; task++) {
            Boundaries.equal("the start of " + task, 30 + 9 * task, x.baselineStart(task));
        }
        x.setDuration(0, 1);
        x.setRelease(1, 0);
        x.removeDependency(11, 10);
        Boundaries.equal("a levelled start that has changed", 30, x.levelledStart(11));
        Boundaries.equal("another one", 31, x.levelledStart(1));
        for (int task = 0; task < 12; task++) {
            Boundaries.equal("the start of " + task + " as it was", 30 + 9 * task, x.baselineStart(task));
        }
        TaskLeveller first = Make.tasks(1);
        first.takeBaseline();
        Boundaries.equal("day 0 is a start", 0, first.baselineStart(0));
        TaskLeveller between = new TaskLeveller();
        between.setLimit(0, 5);
        between.addTask(9, 0, 5, 0);
        between.addTask(1, 0, 5, 0);
        between.addTask(9, 1, 5, 30);
        between.takeBaseline();
        Boundaries.equal("a start behind the earliest and before the latest one", 9, between.baselineStart(1));
    }

    private static void noBaseline() {
        TaskLeveller x = new TaskLeveller();
        Boundaries.equal("hasBaseline", false, x.hasBaseline());
        Boundaries.refuses("totalDrift", Boundaries.NOTHING, x::totalDrift);
        Make.addTasks(x, 12);
        Boundaries.equal("hasBaseline with twelve tasks", false, x.hasBaseline());
        for (int number = 0; number < 12; number++) {
            int task = number;
            Boundaries.refuses("the start of " + task, Boundaries.NOTHING, () -> x.baselineStart(task));
            Boundaries.refuses("the drift of " + task, Boundaries.NOTHING, () -> x.drift(task));
        }
    }

    private static void baselineWithoutStarts() {
        TaskLeveller x = new TaskLeveller();
        x.takeBaseline();
        Boundaries.equal("hasBaseline", true, x.hasBaseline());
        Boundaries.equal("totalDrift", 0, x.totalDrift());
        Make.addTasks(x, 12);
        for (int number = 0; number < 12; number++) {
            int task = number;
            Boundaries.refuses("the start of " + task, Boundaries.NOTHING, () -> x.baselineStart(task));
        }
        TaskLeveller gone = Make.tasks(3);
        gone.takeBaseline();
        for (int task = 0; task < 3; task++) {
            gone.removeTask(0);
        }
        gone.takeBaseline();
        gone.addTask(1, 0, 1, 0);
        Boundaries.equal("taken again without tasks", true, gone.hasBaseline());
        Boundaries.refuses("the start of 0", Boundaries.NOTHING, () -> gone.baselineStart(0));
    }

    private static void addedLater() {
        for (int count = 0; count < 12; count++) {
            TaskLeveller x = Make.tasks(count);
            x.takeBaseline();
            Make.addTasks(x, 12 - count);
            for (int number = 0; number < 12; number++) {
                int task = number;
                String what = "task " + task + " of " + count;
                Object got = Check.outcome(() -> x.baselineStart(task));
                Object due = task < count ? (Object) (task / 10) : "throws NoSuchElementException";
                Boundaries.equal(what, due, got);
            }
        }
        TaskLeveller again = Make.tasks(12);
        again.takeBaseline();
        again.removeTask(11);
        again.addTask(1, 0, 1, 0);
        Boundaries.refuses("at the index of a removed one", Boundaries.NOTHING, () -> again.baselineStart(11));
        again.removeTask(0);
        again.addTask(1, 0, 1, 0);
        Boundaries.refuses("one index lower", Boundaries.NOTHING, () -> again.baselineStart(10));
        Boundaries.refuses("behind it", Boundaries.NOTHING, () -> again.baselineStart(11));
    }

    private static void removedStart() {
        for (int gone = 0; gone < 12; gone++) {
            TaskLeveller x = new TaskLeveller();
            for (int task = 0; task < 12; task++) {
                x.addTask(1, 0, 1, task);
            }
            x.takeBaseline();
            x.removeTask(gone);
            for (int task = 0; task < 11; task++) {
                Boundaries.equal("when " + gone + " has gone, the start of " + task, task < gone ? task : task + 1,
                        x.baselineStart(task));
            }
            x.addTask(1, 0, 1, 0);
            Boundaries.refuses("when " + gone + " has gone, the start of a new one", Boundaries.NOTHING,
                    () -> x.baselineStart(11));
        }
        TaskLeveller late = new TaskLeveller();
        late.addTask(1, 0, 1, 0);
        late.addTask(1, 1, 1, 0);
        late.takeBaseline();
        late.setRelease(0, 30);
        Boundaries.equal("the total drift", 30, late.totalDrift());
        late.removeTask(0);
        Boundaries.equal("the total drift without the removed one", 0, late.totalDrift());
    }

    private static void drift() {
        TaskLeveller x = new TaskLeveller();
        x.setLimit(0, 5);
        x.addTask(1, 0, 5, 0);
        x.addTask(1, 0, 5, 0);
        x.takeBaseline();
        Boundaries.equal("none of 0", 0, x.drift(0));
        Boundaries.equal("none of 1", 0, x.drift(1));
        x.setDuration(1, 2);
        Boundaries.equal("later by two days", 2, x.drift(0));
        Boundaries.equal("earlier by one day", -1, x.drift(1));
        x.setDuration(1, 1);
        Boundaries.equal("none again", 0, x.drift(0) + x.drift(1));
        x.setRelease(0, 30);
        Boundaries.equal("the levelled start itself", 30, x.drift(0));
        x.takeBaseline();
        Boundaries.equal("none from a new baseline", 0, x.drift(0));
    }
}
