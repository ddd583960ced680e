import java.util.function.Consumer;

/** The sentences of promises 55 to 57 that name a boundary: undo and the snapshot. */
final class UndoBoundaries {
    private UndoBoundaries() {
    }

    static void hold(Boundaries sentences) {
        sentences.promise(55, "Undoes the latest change that has not been undone.", UndoBoundaries::latestFirst);
        sentences.promise(55, "Returns the number of changes that can still be undone.", UndoBoundaries::stillUndone);
        sentences.promise(55, "Throws `IllegalStateException` if there is nothing to undo",
                UndoBoundaries::nothingToUndo);
        sentences.promise(56, "Takes a snapshot, which replaces an earlier one.", UndoBoundaries::replacedSnapshot);
        sentences.promise(56, "Returns the number of tasks.", UndoBoundaries::savedTasks);
        sentences.promise(57, "Restores the snapshot, which is kept.", UndoBoundaries::keptSnapshot);
        sentences.promise(57, "Afterwards there is nothing to undo.", UndoBoundaries::nothingBehindRestore);
        sentences.promise(57, "Returns the number of tasks after the call.", UndoBoundaries::restoredTasks);
        sentences.promise(57, "Throws `IllegalStateException` if there is no snapshot", UndoBoundaries::noSnapshot);
    }

    private static void releases(TaskLeveller x, int first, int last) {
        for (int release = first; release <= last; release++) {
            x.setRelease(0, release);
        }
    }

    private static void latestFirst() {
        TaskLeveller x = Make.tasks(1);
        releases(x, 1, 3);
        x.undo();
        Boundaries.equal("one undone", 2, x.release(0));
        x.undo();
        Boundaries.equal("two undone", 1, x.release(0));
        x.setRelease(0, 9);
        x.undo();
        Boundaries.equal("a change behind undo, undone", 1, x.release(0));
        x.undo();
        Boundaries.equal("the change before those that were undone", 0, x.release(0));
        x.undo();
        Boundaries.equal("the first change", 0, x.taskCount());
    }

    private static void stillUndone() {
        TaskLeveller x = Make.tasks(1);
        Boundaries.equal("after one change", 0, x.undo());
        for (int changes = 1; changes <= 20; changes++) {
            TaskLeveller some = new TaskLeveller();
            for (int limit = 0; limit < changes; limit++) {
                some.setLimit(0, 5 + limit % 16);
            }
            int left = Math.min(changes, 8);
            while (left > 0) {
                left--;
                Boundaries.equal("after " + changes + " changes", left, some.undo());
            }
            Boundaries.refuses("one more after " + changes + " changes", Boundaries.STATE, some::undo);
        }
        TaskLeveller full = Make.tasks(12);
        full.undo();
        full.undo();
        full.setLimit(0, 5);
        Boundaries.equal("two undone of eight, one more made", 6, full.undo());
    }

    private static void nothingToUndo() {
        TaskLeveller x = new TaskLeveller();
        Boundaries.refuses("at first", Boundaries.STATE, x::undo);
        Boundaries.refuses("a refused change", Boundaries.INDEX, () -> x.removeTask(0));
        Boundaries.refuses("after a refused change", Boundaries.STATE, x::undo);
        x.takeBaseline();
        Boundaries.accepts("after one change", x::undo);
        Boundaries.refuses("when it is undone", Boundaries.STATE, x::undo);
        Make.addTasks(x, 9);
        for (int time = 0; time < 8; time++) {
            Boundaries.accepts("the eight latest of nine", x::undo);
        }
        Boundaries.refuses("the ninth", Boundaries.STATE, x::undo);
        Boundaries.equal("what the ninth change made is kept", 1, x.taskCount());
        x.save();
        Boundaries.refuses("after save", Boundaries.STATE, x::undo);
        Consumer<TaskLeveller> restored = y -> {
            Make.busy(y);
            y.restore();
        };
        Twins.refused(Boundaries.check, restored, Boundaries.STATE, y -> y.undo());
        Twins.refused(Boundaries.check, restored.andThen(y -> {
            y.setLimit(0, 5);
            y.undo();
        }), Boundaries.STATE, y -> y.undo());
    }

    private static void replacedSnapshot() {
        TaskLeveller x = new TaskLeveller();
        x.save();
        Make.addTasks(x, 12);
        x.takeBaseline();
        x.save();
        x.removeTask(0);
        Boundaries.equal("the later, full one", 12, x.restore());
        Boundaries.equal("its baseline", true, x.hasBaseline());
        for (int task = 0; task < 12; task++) {
            x.removeTask(0);
        }
        x.save();
        x.addTask(1, 0, 1, 0);
        Boundaries.equal("the latest, without tasks", 0, x.restore());
        Twins.same(Boundaries.check, "an earlier snapshot shows:", y -> {
            Make.busy(y);
            y.save();
            y.save();
        }, y -> {
            Make.busy(y);
            y.save();
        });
    }

    private static void savedTasks() {
        TaskLeveller x = new TaskLeveller();
        Boundaries.equal("without tasks", 0, x.save());
        for (int count = 1; count <= 12; count++) {
            x.addTask(1, 0, 1, 0);
            Boundaries.equal("with tasks", count, x.save());
        }
        x.removeTask(0);
        Boundaries.equal("one less", 11, x.save());
    }

    private static void keptSnapshot() {
        TaskLeveller x = Make.busy();
        for (int time = 0; time < 10; time++) {
            Boundaries.equal("once more", 3, x.restore());
            Boundaries.equal("the duration of 2", 4, x.duration(2));
            Boundaries.equal("the limit of 0", 10, x.limit(0));
            Boundaries.equal("the link of 1", 1, x.neededCount(1));
            Boundaries.equal("the baseline start of 1", 3, x.baselineStart(1));
            x.setDuration(2, 9);
            x.setLimit(0, 5);
            x.removeDependency(1, 0);
            x.setRelease(0, 30);
            x.takeBaseline();
            x.removeTask(0);
            x.undo();
        }
        Twins.same(Boundaries.check, "restoring twice differs from restoring once:", y -> {
            Make.busy(y);
            y.restore();
            y.removeTask(0);
            y.restore();
        }, y -> {
            Make.busy(y);
            y.restore();
        });
    }

    private static void nothingBehindRestore() {
        TaskLeveller x = new TaskLeveller();
        x.save();
        for (int changes = 0; changes <= 10; changes++) {
            for (int limit = 0; limit < changes; limit++) {
                x.setLimit(0, 5 + limit);
            }
            x.restore();
            Boundaries.refuses("after " + changes + " changes", Boundaries.STATE, x::undo);
            Boundaries.equal("the limit after " + changes + " changes", 10, x.limit(0));
        }
        for (int limit = 5; limit <= 13; limit++) {
            x.setLimit(0, limit);
        }
        for (int left = 7; left >= 0; left--) {
            Boundaries.equal("changes behind it can be undone", left, x.undo());
            Boundaries.equal("the limit before them", 5 + left, x.limit(0));
        }
    }

    private static void restoredTasks() {
        for (int saved = 0; saved <= 12; saved += 4) {
            for (int count = 0; count <= 12; count += 4) {
                TaskLeveller x = Make.tasks(saved);
                x.save();
                for (int task = 0; task < saved; task++) {
                    x.removeTask(0);
                }
                Make.addTasks(x, count);
                Boundaries.equal(saved + " tasks over " + count, saved, x.restore());
                Boundaries.equal("taskCount", saved, x.taskCount());
            }
        }
    }

    private static void noSnapshot() {
        TaskLeveller x = new TaskLeveller();
        Boundaries.refuses("at first", Boundaries.STATE, x::restore);
        x.addTask(1, 0, 1, 0);
        x.takeBaseline();
        Boundaries.refuses("with changes", Boundaries.STATE, x::restore);
        x.undo();
        Boundaries.refuses("after undo", Boundaries.STATE, x::restore);
        x.save();
        Boundaries.accepts("with a snapshot", x::restore);
        TaskLeveller empty = new TaskLeveller();
        empty.save();
        Boundaries.equal("with a snapshot without tasks", 0, empty.restore());
        Twins.refused(Boundaries.check, Make::plain, Boundaries.STATE, y -> y.restore());
        Twins.refused(Boundaries.check, y -> Make.addTasks(y, 10), Boundaries.STATE, y -> y.restore());
    }
}
