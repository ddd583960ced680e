/** The sentences of promises 42 to 46 that name a boundary: the ranks, the quotients and the check. */
final class RankBoundaries {
    private static final String FROM_0 = "the rank, counted from 0";
    private static final String NO_RANK = "Throws `NoSuchElementException` if there is no such rank";
    private static final String NO_TASKS = "Throws `ArithmeticException` if there are no tasks";

    private RankBoundaries() {
    }

    static void hold(Boundaries sentences) {
        sentences.promise(42, "Returns the task at a rank when tasks are sorted by slack in ascending order, then by "
                + "duration in descending order, then by index in ascending order.", RankBoundaries::bySlack);
        sentences.promise(42, FROM_0, () -> fromZero((x, rank) -> x.taskBySlack(rank), 0, 1));
        sentences.promise(42, NO_RANK, () -> Boundaries.noSuchRank((x, rank) -> x.taskBySlack(rank)));
        sentences.promise(43, "Returns the task at a rank when tasks are sorted by levelled start in ascending order, "
                + "then by demand in descending order, then by index in ascending order.", RankBoundaries::byStart);
        sentences.promise(43, FROM_0, () -> fromZero((x, rank) -> x.taskByStart(rank), 11, -1));
        sentences.promise(43, NO_RANK, () -> Boundaries.noSuchRank((x, rank) -> x.taskByStart(rank)));
        sentences.promise(44, "Returns the mean slack of all tasks: the sum divided by the number of tasks, both "
                + "converted to double.", RankBoundaries::means);
        sentences.promise(44, NO_TASKS, () -> noTasks((x, resource) -> x.meanSlack()));
        sentences.promise(45, "Returns the workload of a resource divided by its limit times the levelled length, both "
                + "converted to float.", RankBoundaries::quotients);
        sentences.promise(45, "Throws `IllegalArgumentException` if there is no such resource",
                () -> wrongResource((x, resource) -> x.utilization(resource)));
        sentences.promise(45, NO_TASKS, () -> noTasks((x, resource) -> x.utilization(resource)));
        sentences.promise(46, "Returns true if all of this holds.", RankBoundaries::consistent);
    }

    private static void ranks(String what, TaskLeveller x, Boundaries.Ask ask, int... due) {
        for (int rank = 0; rank < due.length; rank++) {
            Boundaries.equal(what + ", rank " + rank, due[rank], ask.of(x, rank));
        }
    }

    private static void bySlack() {
        Boundaries.Ask ask = (x, rank) -> x.taskBySlack(rank);
        ranks("all equal", Make.tasks(12), ask, 0, 1, 2, 3, 4, 5, 6, 7, 8, 9, 10, 11);
        TaskLeveller x = new TaskLeveller();
        x.addTask(8, 0, 1, 0);
        x.addTask(1, 1, 1, 8);
        x.addTask(9, 2, 1, 0);
        x.addTask(1, 1, 1, 7);
        x.addTask(9, 2, 1, 0);
        x.addTask(8, 0, 1, 1);
        // 0 and 3 have a slack of one day, all others have none.
        ranks("slack before duration", x, ask, 2, 4, 5, 1, 0, 3);
        x.setRelease(3, 8);
        ranks("one slack less", x, ask, 2, 4, 5, 1, 3, 0);
        TaskLeveller far = Make.chain(2, 9, 30);
        far.addTask(9, 1, 1, 0);
        far.addTask(1, 1, 1, 8);
        far.addTask(9, 1, 1, 1);
        // The slacks of the last three are 39, 39 and 38.
        ranks("great slacks", far, ask, 0, 1, 4, 2, 3);
    }

    private static void byStart() {
        Boundaries.Ask ask = (x, rank) -> x.taskByStart(rank);
        TaskLeveller all = Make.tasks(12);
        ranks("all equal but for the limit", all, ask, 0, 1, 2, 3, 4, 5, 6, 7, 8, 9, 10, 11);
        TaskLeveller x = new TaskLeveller();
        x.addTask(1, 0, 1, 1);
        x.addTask(1, 1, 5, 1);
        x.addTask(1, 2, 4, 0);
        x.addTask(1, 1, 5, 1);
        x.addTask(1, 2, 5, 0);
        x.addTask(1, 0, 1, 0);
        ranks("start before demand", x, ask, 4, 2, 5, 1, 3, 0);
        x.setRelease(4, 1);
        ranks("one later", x, ask, 2, 5, 1, 3, 4, 0);
        x.setLimit(1, 5);
        ranks("one later by the limit", x, ask, 2, 5, 1, 4, 0, 3);
    }

    /** Task 0 is first by its slack, and task 11 by its start. */
    private static void fromZero(Boundaries.Ask ask, int first, int step) {
        TaskLeveller x = new TaskLeveller();
        for (int task = 0; task < 12; task++) {
            x.addTask(1, 0, 1, 2 * (11 - task));
        }
        x.setDuration(0, 9);
        for (int rank = 0; rank < 12; rank++) {
            Boundaries.equal("rank " + rank, first + step * rank, ask.of(x, rank));
        }
        Boundaries.refuses("rank 12", Boundaries.NOTHING, () -> ask.of(x, 12));
        Boundaries.equal("rank 0 of one task", 0, ask.of(Make.tasks(1), 0));
        Boundaries.refuses("rank 1 of one task", Boundaries.NOTHING, () -> ask.of(Make.tasks(1), 1));
    }

    private static void means() {
        Boundaries.equal("of one task", 0.0, Make.tasks(1).meanSlack());
        Boundaries.equal("of twelve", 0.0, Make.tasks(12).meanSlack());
        TaskLeveller x = Make.tasks(2);
        x.setDuration(1, 2);
        Boundaries.equal("a half", 0.5, x.meanSlack());
        x.addTask(2, 1, 1, 0);
        Boundaries.equal("a third", 1.0 / 3.0, x.meanSlack());
        x.addTask(1, 1, 1, 0);
        x.addTask(2, 1, 1, 0);
        x.addTask(2, 1, 1, 0);
        x.addTask(2, 1, 1, 0);
        Boundaries.equal("two sevenths", 2.0 / 7.0, x.meanSlack());
        TaskLeveller far = Make.chain(11, 9, 30);
        far.addTask(1, 1, 1, 0);
        Boundaries.equal("the greatest slack of twelve tasks", 128.0 / 12.0, far.meanSlack());
    }

    private static void noTasks(Boundaries.Ask ask) {
        TaskLeveller x = new TaskLeveller();
        for (int number = 0; number < 3; number++) {
            int resource = number;
            Boundaries.refuses("at first", Boundaries.ARITHMETIC, () -> ask.of(x, resource));
        }
        x.takeBaseline();
        Boundaries.refuses("with a baseline", Boundaries.ARITHMETIC, () -> ask.of(x, 0));
        x.addTask(1, 0, 1, 0);
        for (int number = 0; number < 3; number++) {
            int resource = number;
            Boundaries.accepts("with one task", () -> ask.of(x, resource));
        }
        x.removeTask(0);
        Boundaries.refuses("when it has gone", Boundaries.ARITHMETIC, () -> ask.of(x, 0));
        x.undo();
        Boundaries.accepts("when it is back", () -> ask.of(x, 0));
        Twins.refused(Boundaries.check, Make::emptied, Boundaries.ARITHMETIC, y -> ask.of(y, 0));
    }

    private static void quotients() {
        TaskLeveller x = new TaskLeveller();
        x.addTask(3, 1, 1, 0);
        Boundaries.equal("of the demanded one", 3.0f / 30.0f, x.utilization(1));
        Boundaries.equal("of one that no task demands", 0.0f, x.utilization(0));
        x.setLimit(1, 7);
        Boundaries.equal("not rounded", 3.0f / 21.0f, x.utilization(1));
        TaskLeveller full = new TaskLeveller();
        for (int task = 0; task < 12; task++) {
            full.addTask(9, 2, 5, 0);
        }
        full.setLimit(2, 5);
        Boundaries.equal("at the most", 1.0f, full.utilization(2));
        full.setLimit(2, 20);
        Boundaries.equal("at the most by the highest limit", 1.0f, full.utilization(2));
        full.setLimit(2, 19);
        Boundaries.equal("by a limit that leaves a rest", 540.0f / 684.0f, full.utilization(2));
        Boundaries.equal("up to the last day of all", 540.0f / 1380.0f, Make.chain(12, 9, 30).utilization(0));
    }

    private static void wrongResource(Boundaries.Ask ask) {
        for (int wrong : new int[] {-1, 3, 4}) {
            Boundaries.refuses("resource " + wrong, Boundaries.ARGUMENT, () -> ask.of(Make.tasks(1), wrong));
            Boundaries.refuses("resource " + wrong + " without tasks", Boundaries.ARGUMENT,
                    () -> ask.of(Make.tasks(0), wrong));
        }
        Boundaries.noSuchResource(ask);
    }

    private static void consistent() {
        Boundaries.equal("without tasks", true, new TaskLeveller().isConsistent());
        Boundaries.equal("of one task", true, Make.tasks(1).isConsistent());
        Boundaries.equal("of twelve", true, Make.tasks(12).isConsistent());
        Boundaries.equal("of all dependencies", true, Make.triangle(12).isConsistent());
        Boundaries.equal("up to the last day of all", true, Make.chain(12, 9, 30).isConsistent());
        TaskLeveller x = Make.busy();
        Boundaries.equal("of a busy one", true, x.isConsistent());
        x.removeTask(1);
        Boundaries.equal("after a removal", true, x.isConsistent());
        x.undo();
        Boundaries.equal("after undo", true, x.isConsistent());
        x.restore();
        Boundaries.equal("after restore", true, x.isConsistent());
    }
}
