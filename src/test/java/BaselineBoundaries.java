/** The sentences of promises 38 to 41 that name a boundary: the baseline and the drift from it. */
final class BaselineBoundaries {
    private static final String NO_TASK = "Throws `IndexOutOfBoundsException` if there is no such task";
    private static final String NO_START = "Throws `NoSuchElementException` if it has no baseline start";

    private BaselineBoundaries() {
    }

    static void hold(Boundaries sentences) {
        sentences.promise(38, "Returns true if there is a baseline.", BaselineBoundaries::hasBaseline);
        sentences.promise(39, NO_TASK, () -> Boundaries.noSuchTask((x, task) -> x.baselineStart(task)));
        sentences.promise(39, NO_START, () -> noStart((x, task) -> x.baselineStart(task)));
        sentences.promise(40, "Returns the number of days, which can be negative.", BaselineBoundaries::negative);
        sentences.promise(40, NO_TASK, () -> Boundaries.noSuchTask((x, task) -> x.drift(task)));
        sentences.promise(40, NO_START, () -> noStart((x, task) -> x.drift(task)));
        sentences.promise(41, "Returns the sum of the absolute values of the drifts of all tasks with a baseline "
                + "start.", BaselineBoundaries::totals);
        sentences.promise(41, "Throws `NoSuchElementException` if there is no baseline", BaselineBoundaries::noTotal);
    }

    private static void hasBaseline() {
        TaskLeveller x = new TaskLeveller();
        Boundaries.equal("at first", false, x.hasBaseline());
        x.takeBaseline();
        Boundaries.equal("taken without tasks", true, x.hasBaseline());
        x.undo();
        Boundaries.equal("after undo", false, x.hasBaseline());
        x.addTask(1, 0, 1, 0);
        Boundaries.equal("with a task", false, x.hasBaseline());
        x.takeBaseline();
        Boundaries.equal("taken with a task", true, x.hasBaseline());
        x.removeTask(0);
        Boundaries.equal("when all tasks of it have gone", true, x.hasBaseline());
    }

    private static void noStart(Boundaries.Ask ask) {
        TaskLeveller x = Make.tasks(11);
        for (int number = 0; number < 11; number++) {
            int task = number;
            Boundaries.refuses("without a baseline, task " + task, Boundaries.NOTHING, () -> ask.of(x, task));
        }
        x.takeBaseline();
        x.addTask(1, 0, 1, 0);
        for (int number = 0; number < 11; number++) {
            int task = number;
            Boundaries.accepts("in the baseline, task " + task, () -> ask.of(x, task));
        }
        Boundaries.refuses("added behind the baseline", Boundaries.NOTHING, () -> ask.of(x, 11));
        x.removeTask(0);
        Boundaries.accepts("the last one in the baseline, one index lower", () -> ask.of(x, 9));
        Boundaries.refuses("the later one, one index lower", Boundaries.NOTHING, () -> ask.of(x, 10));
        x.addTask(1, 0, 1, 0);
        Boundaries.refuses("one more at the last index", Boundaries.NOTHING, () -> ask.of(x, 11));
        x.takeBaseline();
        Boundaries.accepts("the last one when the baseline is taken again", () -> ask.of(x, 11));
        for (int task = 0; task < 12; task++) {
            x.removeTask(0);
        }
        x.addTask(1, 0, 1, 0);
        Boundaries.refuses("at index 0 when all of the baseline have gone", Boundaries.NOTHING, () -> ask.of(x, 0));
        TaskLeveller empty = new TaskLeveller();
        empty.takeBaseline();
        empty.addTask(1, 0, 1, 0);
        Boundaries.refuses("with a baseline without starts", Boundaries.NOTHING, () -> ask.of(empty, 0));
        Boundaries.changesNothing(Boundaries.NOTHING, y -> ask.of(y, 3));
        Twins.refused(Boundaries.check, Make::plain, Boundaries.NOTHING, y -> ask.of(y, 0));
    }

    private static void negative() {
        TaskLeveller x = new TaskLeveller();
        x.addTask(9, 0, 5, 30);
        x.takeBaseline();
        Boundaries.equal("none", 0, x.drift(0));
        x.setRelease(0, 29);
        Boundaries.equal("one day earlier", -1, x.drift(0));
        x.setRelease(0, 0);
        Boundaries.equal("from the last release day to the first", -30, x.drift(0));
        TaskLeveller chain = Make.chain(12, 9, 30);
        chain.takeBaseline();
        chain.removeDependency(11, 10);
        for (int task = 0; task < 12; task++) {
            chain.setRelease(task, 0);
        }
        Boundaries.equal("of the first one in the chain", -30, chain.drift(0));
        chain.setLimit(0, 20);
        Boundaries.equal("from the last day of all to the first", -129, chain.drift(11));
        chain.takeBaseline();
        chain.addDependency(11, 10);
        for (int task = 0; task < 12; task++) {
            chain.setRelease(task, 30);
        }
        Boundaries.equal("from the first day to the last one of all", 129, chain.drift(11));
        Boundaries.equal("of the first one in the chain", 30, chain.drift(0));
    }

    private static void totals() {
        TaskLeveller x = new TaskLeveller();
        x.takeBaseline();
        Boundaries.equal("without tasks", 0, x.totalDrift());
        x.addTask(1, 0, 1, 0);
        Boundaries.equal("of a task without a start", 0, x.totalDrift());
        x.addTask(1, 1, 1, 5);
        x.takeBaseline();
        Boundaries.equal("at once", 0, x.totalDrift());
        x.setRelease(0, 3);
        Boundaries.equal("three days later", 3, x.totalDrift());
        x.setRelease(1, 2);
        Boundaries.equal("three days earlier and three later", 6, x.totalDrift());
        x.addTask(1, 2, 1, 30);
        Boundaries.equal("with a later task", 6, x.totalDrift());
        x.removeTask(0);
        Boundaries.equal("without the removed one", 3, x.totalDrift());
        x.removeTask(0);
        Boundaries.equal("of the later task alone", 0, x.totalDrift());
        x.removeTask(0);
        Boundaries.equal("when all have gone", 0, x.totalDrift());
        TaskLeveller all = Make.tasks(12);
        all.setLimit(0, 12);
        all.takeBaseline();
        for (int task = 0; task < 12; task++) {
            all.setRelease(task, 30);
        }
        Boundaries.equal("of all twelve", 360, all.totalDrift());
    }

    private static void noTotal() {
        TaskLeveller x = new TaskLeveller();
        Boundaries.refuses("at first", Boundaries.NOTHING, x::totalDrift);
        x.addTask(1, 0, 1, 0);
        Boundaries.refuses("with a task", Boundaries.NOTHING, x::totalDrift);
        x.takeBaseline();
        Boundaries.accepts("with a baseline", x::totalDrift);
        x.undo();
        Boundaries.refuses("after undo", Boundaries.NOTHING, x::totalDrift);
        Twins.refused(Boundaries.check, Make::plain, Boundaries.NOTHING, y -> y.totalDrift());
    }
}
