import java.util.NoSuchElementException;

/** Promises 9 and 38 to 41: the baseline and the drift from it. */
public final class BaselineTest {
    private static final Class<IndexOutOfBoundsException> INDEX = IndexOutOfBoundsException.class;
    private static final Class<NoSuchElementException> NOTHING = NoSuchElementException.class;

    private static final Check check = new Check();

    public static void main(String[] args) {
        without();
        withoutTasks();
        taken();
        changed();
        check.end();
    }

    private static void without() {
        TaskLeveller x = new TaskLeveller();
        x.addTask(1, 0, 1, 0);
        check.promise(38, "hasBaseline");
        check.equal("at first", false, x.hasBaseline());
        check.promise(39, "baselineStart");
        check.refuses("without one", NOTHING, () -> x.baselineStart(0));
        check.refuses("no such task", INDEX, () -> x.baselineStart(1));
        check.refuses("task -1", INDEX, () -> x.baselineStart(-1));
        check.promise(40, "drift");
        check.refuses("without one", NOTHING, () -> x.drift(0));
        check.refuses("no such task", INDEX, () -> x.drift(1));
        check.refuses("task -1", INDEX, () -> x.drift(-1));
        check.promise(41, "totalDrift");
        check.refuses("without one", NOTHING, x::totalDrift);
    }

    private static void withoutTasks() {
        TaskLeveller x = new TaskLeveller();
        check.promise(9, "takeBaseline");
        check.equal("without tasks", 0, x.takeBaseline());
        check.promise(38, "hasBaseline");
        check.equal("without starts", true, x.hasBaseline());
        check.promise(41, "totalDrift");
        check.equal("without starts", 0, x.totalDrift());
        x.addTask(1, 0, 1, 3);
        check.equal("of a later task alone", 0, x.totalDrift());
        check.promise(39, "baselineStart");
        check.refuses("of a later task", NOTHING, () -> x.baselineStart(0));
        check.promise(40, "drift");
        check.refuses("of a later task", NOTHING, () -> x.drift(0));
    }

    private static TaskLeveller sample() {
        TaskLeveller x = new TaskLeveller();
        x.setLimit(0, 5);
        x.addTask(4, 0, 5, 0);
        x.addTask(3, 0, 5, 0);
        x.addTask(2, 1, 5, 6);
        return x;
    }

    private static void taken() {
        TaskLeveller x = sample();
        check.promise(9, "takeBaseline");
        check.equal("the levelled length", 8, x.takeBaseline());
        check.promise(39, "baselineStart");
        check.equal("of 0", 0, x.baselineStart(0));
        check.equal("of 1", 4, x.baselineStart(1));
        check.equal("of 2", 6, x.baselineStart(2));
        check.promise(41, "totalDrift");
        check.equal("at once", 0, x.totalDrift());
        x.setRelease(0, 5);
        x.setRelease(2, 9);
        check.promise(40, "drift");
        check.equal("of 0", 5, x.drift(0));
        check.equal("of 1", -4, x.drift(1));
        check.equal("of 2", 3, x.drift(2));
        check.promise(41, "totalDrift");
        check.equal("absolute values", 12, x.totalDrift());
        check.promise(39, "baselineStart");
        check.equal("of 0 still", 0, x.baselineStart(0));
        check.promise(9, "takeBaseline");
        check.equal("again", 11, x.takeBaseline());
        check.equal("replaced", 5, x.baselineStart(0));
        check.equal("replaced", 0, x.drift(2));
    }

    private static void changed() {
        TaskLeveller x = sample();
        x.takeBaseline();
        x.addTask(1, 2, 1, 7);
        check.promise(39, "baselineStart");
        check.refuses("of a later task", NOTHING, () -> x.baselineStart(3));
        x.removeTask(0);
        check.equal("moved down", 4, x.baselineStart(0));
        check.equal("moved down", 6, x.baselineStart(1));
        check.refuses("moved down", NOTHING, () -> x.baselineStart(2));
        check.refuses("no such task", INDEX, () -> x.baselineStart(3));
        check.promise(40, "drift");
        check.equal("of the first", -4, x.drift(0));
        check.refuses("of the later task", NOTHING, () -> x.drift(2));
        check.promise(41, "totalDrift");
        check.equal("without the removed and the later", 4, x.totalDrift());
        x.addTask(1, 2, 1, 7);
        check.refuses("of a task at an old index", NOTHING, () -> x.drift(3));
        for (int call = 0; call < 4; call++) {
            x.removeTask(0);
        }
        check.promise(38, "hasBaseline");
        check.equal("when all tasks are gone", true, x.hasBaseline());
        check.promise(41, "totalDrift");
        check.equal("when all tasks are gone", 0, x.totalDrift());
        x.addTask(1, 0, 1, 0);
        check.promise(40, "drift");
        check.refuses("of a new first task", NOTHING, () -> x.drift(0));
    }
}
