/** Promises 55 to 57: undo and the snapshot. */
public final class UndoTest {
    private static final Class<IllegalStateException> STATE = IllegalStateException.class;

    private static final Check check = new Check();

    public static void main(String[] args) {
        eachChange();
        noChange();
        atMostEight();
        script();
        snapshot();
        notCovered();
        check.end();
    }

    private static void eachChange() {
        check.promise(55, "undo");
        TaskLeveller x = new TaskLeveller();
        check.refuses("at first", STATE, x::undo);
        x.addTask(1, 0, 1, 0);
        x.addTask(2, 1, 2, 3);
        check.equal("changes left", 1, x.undo());
        check.equal("tasks", 1, x.taskCount());
        check.equal("changes left", 0, x.undo());
        check.equal("tasks", 0, x.taskCount());
        check.refuses("all undone", STATE, x::undo);
        x.addTask(1, 0, 1, 0);
        x.addTask(2, 1, 2, 3);
        x.addDependency(1, 0);
        x.setLimit(1, 5);
        x.setDuration(0, 9);
        x.setRelease(1, 7);
        x.takeBaseline();
        x.removeTask(0);
        check.equal("the removal", 7, x.undo());
        check.equal("tasks", 2, x.taskCount());
        check.equal("dependency", true, x.dependsDirectly(1, 0));
        check.equal("baselineStart", 9, x.baselineStart(1));
        check.equal("the baseline", 6, x.undo());
        check.equal("hasBaseline", false, x.hasBaseline());
        check.equal("the release", 5, x.undo());
        check.equal("release", 3, x.release(1));
        check.equal("levelledStart", 9, x.levelledStart(1));
        check.equal("the duration", 4, x.undo());
        check.equal("duration", 1, x.duration(0));
        check.equal("levelledStart", 3, x.levelledStart(1));
        check.equal("the limit", 3, x.undo());
        check.equal("limit", 10, x.limit(1));
        check.equal("the dependency", 2, x.undo());
        check.equal("dependency", false, x.dependsDirectly(1, 0));
        x.addDependency(1, 0);
        x.removeDependency(1, 0);
        check.equal("the removed dependency", 3, x.undo());
        check.equal("dependency", true, x.dependsDirectly(1, 0));
        x.takeBaseline();
        x.setRelease(0, 4);
        x.takeBaseline();
        check.equal("the later baseline", 5, x.undo());
        check.equal("the earlier baseline", 0, x.baselineStart(0));
    }

    private static void noChange() {
        TaskLeveller x = new TaskLeveller();
        x.addTask(1, 0, 1, 0);
        x.addTask(1, 0, 1, 0);
        x.addDependency(1, 0);
        x.addDependency(1, 0);
        x.removeDependency(0, 1);
        x.setDuration(0, 1);
        x.setRelease(0, 0);
        x.setLimit(0, 10);
        check.equal("changes that change nothing count", 7, x.undo());
        check.refuses("a refused one", IllegalArgumentException.class, () -> x.setDuration(0, 0));
        check.refuses("a refused one", IndexOutOfBoundsException.class, () -> x.removeTask(2));
        check.refuses("a refused one", UnsupportedOperationException.class, () -> x.addDependency(0, 1));
        check.equal("refused ones do not count", 6, x.undo());
        x.save();
        x.type('x');
        x.renderTask(0);
        x.isConsistent();
        check.equal("other calls do not count", 5, x.undo());
        check.equal("the old link stays", true, x.dependsDirectly(1, 0));
        check.equal("the same link", 4, x.undo());
        check.equal("the old link stays", true, x.dependsDirectly(1, 0));
        check.equal("the same link", 3, x.undo());
        check.equal("the old link stays", true, x.dependsDirectly(1, 0));
        check.equal("the link", 2, x.undo());
        check.equal("the link", false, x.dependsDirectly(1, 0));
    }

    private static void atMostEight() {
        TaskLeveller x = new TaskLeveller();
        x.addTask(1, 0, 1, 0);
        for (int release = 1; release <= 20; release++) {
            x.setRelease(0, release);
        }
        for (int left = 7; left >= 0; left--) {
            check.equal("changes left", left, x.undo());
            check.equal("release", 12 + left, x.release(0));
        }
        check.refuses("a ninth", STATE, x::undo);
        x.setRelease(0, 30);
        check.equal("after another change", 0, x.undo());
        check.equal("release", 12, x.release(0));
        for (int release = 1; release <= 5; release++) {
            x.setRelease(0, release);
        }
        x.undo();
        x.undo();
        x.setRelease(0, 9);
        check.equal("three and one", 3, x.undo());
        check.equal("release", 3, x.release(0));
    }

    private static void run(TaskLeveller x, String script) {
        for (int index = 0; index < script.length(); index++) {
            x.type(script.charAt(index));
        }
        Check.outcome(x::runScript);
    }

    private static void script() {
        TaskLeveller x = new TaskLeveller();
        x.setLimit(2, 6);
        run(x, "task 1 0 1 0;task 2 0 3 0;link 1>0;mark");
        run(x, "mark;drop 2");
        run(x, "mark;");
        check.equal("tasks", 2, x.taskCount());
        check.equal("a script is one change", 1, x.undo());
        check.equal("tasks", 0, x.taskCount());
        check.equal("hasBaseline", false, x.hasBaseline());
        check.equal("limit", 6, x.limit(2));
    }

    private static void snapshot() {
        check.promise(57, "restore");
        TaskLeveller x = new TaskLeveller();
        check.refuses("without a snapshot", STATE, x::restore);
        x.addTask(3, 2, 5, 1);
        x.addTask(3, 2, 5, 1);
        x.addDependency(0, 1);
        x.setLimit(2, 5);
        x.takeBaseline();
        check.promise(56, "save");
        check.equal("tasks", 2, x.save());
        x.removeTask(1);
        x.setLimit(2, 20);
        x.setDuration(0, 9);
        x.takeBaseline();
        check.promise(57, "restore");
        check.equal("levelledLength before", 10, x.levelledLength());
        check.equal("tasks", 2, x.restore());
        check.equal("levelledLength", 7, x.levelledLength());
        check.equal("limit", 5, x.limit(2));
        check.equal("dependency", true, x.dependsDirectly(0, 1));
        check.equal("baselineStart", 4, x.baselineStart(0));
        check.refuses("undo behind it", STATE, x::undo);
        x.removeTask(0);
        x.removeTask(0);
        check.equal("undo of later changes", 1, x.undo());
        check.equal("it is kept", 2, x.restore());
        check.refuses("a refused undo changes nothing", STATE, x::undo);
        check.promise(56, "save");
        x.removeTask(0);
        check.equal("replaces the earlier", 1, x.save());
        check.equal("leaves what can be undone", 0, x.undo());
        check.equal("restore", 1, x.restore());
        check.equal("of no tasks", 0, new TaskLeveller().save());
        TaskLeveller empty = new TaskLeveller();
        empty.save();
        empty.takeBaseline();
        check.equal("restore of no tasks", 0, empty.restore());
        check.equal("hasBaseline", false, empty.hasBaseline());
    }

    private static void notCovered() {
        check.about("promises 55 and 57 (what is not covered)");
        TaskLeveller x = new TaskLeveller();
        x.save();
        x.addTask(1, 0, 1, 0);
        int length = x.renderTask(0);
        x.type('m');
        x.undo();
        check.equal("output after undo", '0', x.outputAt(0));
        check.equal("buffer after undo", 2, x.type('a'));
        x.addTask(1, 0, 1, 0);
        x.save();
        x.undo();
        check.equal("snapshot after undo", 1, x.restore());
        check.equal("output after restore", '!', x.outputAt(length - 1));
        check.equal("buffer after restore", 3, x.type('r'));
        x.type('k');
        check.equal("the script", 1, x.runScript());
    }
}
