/** Promises 4, 5 and 16 to 21: the dependencies and the order that follows from them. */
public final class DependenciesTest {
    private static final Class<IndexOutOfBoundsException> INDEX = IndexOutOfBoundsException.class;
    private static final int[] STRANGE = {-1, 4, 12, 32, Integer.MAX_VALUE, Integer.MIN_VALUE};

    private static final Check check = new Check();

    public static void main(String[] args) {
        addDependency();
        removeDependency();
        direct();
        chains();
        counts();
        order();
        wrongPairs();
        fullTriangle();
        check.end();
    }

    private static TaskLeveller tasks(int count) {
        TaskLeveller x = new TaskLeveller();
        for (int task = 0; task < count; task++) {
            x.addTask(1, 0, 1, 0);
        }
        return x;
    }

    private static void addDependency() {
        check.promise(4, "addDependency");
        TaskLeveller x = tasks(4);
        check.equal("new", true, x.addDependency(1, 0));
        check.equal("old", false, x.addDependency(1, 0));
        check.equal("new", true, x.addDependency(2, 1));
        check.equal("along the chain", true, x.addDependency(2, 0));
        check.refuses("back", UnsupportedOperationException.class, () -> x.addDependency(0, 1));
        check.refuses("back over the chain", UnsupportedOperationException.class, () -> x.addDependency(0, 2));
        check.refuses("itself", IllegalArgumentException.class, () -> x.addDependency(3, 3));
        check.refuses("itself, no such task", INDEX, () -> x.addDependency(4, 4));
        for (int strange : STRANGE) {
            check.refuses("task " + strange, INDEX, () -> x.addDependency(strange, 0));
            check.refuses("needed " + strange, INDEX, () -> x.addDependency(0, strange));
        }
        check.equal("0 needs", 0, x.neededCount(0));
        check.equal("3 needs", 0, x.neededCount(3));
        x.removeDependency(2, 0);
        check.refuses("back over the chain alone", UnsupportedOperationException.class, () -> x.addDependency(0, 2));
        x.removeDependency(2, 1);
        check.equal("back when the chain is broken", true, x.addDependency(0, 2));
    }

    private static void removeDependency() {
        check.promise(5, "removeDependency");
        TaskLeveller x = tasks(4);
        x.addDependency(1, 0);
        check.equal("the other way", false, x.removeDependency(0, 1));
        check.equal("there", true, x.removeDependency(1, 0));
        check.equal("gone", false, x.removeDependency(1, 0));
        check.equal("itself", false, x.removeDependency(1, 1));
        check.equal("depends", false, x.depends(1, 0));
        for (int strange : STRANGE) {
            check.refuses("task " + strange, INDEX, () -> x.removeDependency(strange, 0));
            check.refuses("needed " + strange, INDEX, () -> x.removeDependency(0, strange));
        }
    }

    private static void direct() {
        check.promise(16, "dependsDirectly");
        TaskLeveller x = tasks(4);
        x.addDependency(0, 3);
        x.addDependency(3, 2);
        check.equal("direct", true, x.dependsDirectly(0, 3));
        check.equal("back", false, x.dependsDirectly(3, 0));
        check.equal("by a chain", false, x.dependsDirectly(0, 2));
        check.equal("itself", false, x.dependsDirectly(0, 0));
    }

    private static void chains() {
        TaskLeveller x = tasks(12);
        for (int task = 0; task < 11; task++) {
            x.addDependency(task, task + 1);
        }
        for (int task = 0; task < 12; task++) {
            for (int needed = 0; needed < 12; needed++) {
                check.promise(17, "depends");
                check.equal(task + " on " + needed, needed > task, x.depends(task, needed));
                check.promise(18, "dependsByClosure");
                check.equal(task + " on " + needed, needed > task, x.dependsByClosure(task, needed));
            }
        }
        TaskLeveller up = tasks(3);
        up.addDependency(1, 0);
        up.addDependency(0, 2);
        check.equal("over the first by closure", true, up.dependsByClosure(1, 2));
        x.removeDependency(5, 6);
        check.equal("over the gap by closure", false, x.dependsByClosure(0, 11));
        check.equal("before the gap by closure", true, x.dependsByClosure(0, 5));
        check.promise(17, "depends");
        check.equal("over the gap", false, x.depends(0, 11));
        check.equal("before the gap", true, x.depends(0, 5));
    }

    private static void counts() {
        TaskLeveller x = tasks(4);
        x.addDependency(3, 0);
        x.addDependency(3, 1);
        x.addDependency(2, 0);
        x.addDependency(1, 0);
        check.promise(19, "neededCount");
        check.equal("of 0", 0, x.neededCount(0));
        check.equal("of 3, without chains", 2, x.neededCount(3));
        check.promise(20, "dependentCount");
        check.equal("of 0", 3, x.dependentCount(0));
        check.equal("of 1", 1, x.dependentCount(1));
        check.equal("of 3", 0, x.dependentCount(3));
        x.removeTask(2);
        check.equal("of 0 after a removal", 2, x.dependentCount(0));
    }

    private static void order() {
        check.promise(21, "taskInOrder");
        TaskLeveller x = tasks(5);
        x.addDependency(0, 3);
        x.addDependency(1, 4);
        x.addDependency(3, 2);
        int[] due = {2, 3, 0, 4, 1};
        for (int position = 0; position < due.length; position++) {
            check.equal("position " + position, due[position], x.taskInOrder(position));
        }
        for (int strange : new int[] {-1, 5, 12, Integer.MAX_VALUE, Integer.MIN_VALUE}) {
            check.refuses("position " + strange, java.util.NoSuchElementException.class, () -> x.taskInOrder(strange));
        }
        check.refuses("no tasks", java.util.NoSuchElementException.class, () -> tasks(0).taskInOrder(0));
    }

    private static void wrongPairs() {
        check.about("promises 16 to 20 (wrong arguments)");
        TaskLeveller x = tasks(4);
        for (int strange : STRANGE) {
            check.refuses("dependsDirectly", INDEX, () -> x.dependsDirectly(strange, 0));
            check.refuses("dependsDirectly", INDEX, () -> x.dependsDirectly(0, strange));
            check.refuses("depends", INDEX, () -> x.depends(strange, 0));
            check.refuses("depends", INDEX, () -> x.depends(0, strange));
            check.refuses("dependsByClosure", INDEX, () -> x.dependsByClosure(strange, 0));
            check.refuses("dependsByClosure", INDEX, () -> x.dependsByClosure(0, strange));
            check.refuses("neededCount", INDEX, () -> x.neededCount(strange));
            check.refuses("dependentCount", INDEX, () -> x.dependentCount(strange));
        }
    }

    /** All 66 dependencies that 12 tasks can have: the deepest and the widest search. */
    private static void fullTriangle() {
        check.about("promises 4 and 17 to 23 (all dependencies)");
        TaskLeveller x = tasks(12);
        for (int task = 0; task < 12; task++) {
            for (int needed = task + 1; needed < 12; needed++) {
                check.equal("new", true, x.addDependency(task, needed));
            }
        }
        for (int task = 0; task < 12; task++) {
            check.equal("neededCount", 11 - task, x.neededCount(task));
            check.equal("dependentCount", task, x.dependentCount(task));
            check.equal("taskInOrder", 11 - task, x.taskInOrder(task));
            check.equal("earliestStart", 11 - task, x.earliestStart(task));
            check.equal("earliestStartByRounds", 11 - task, x.earliestStartByRounds(task));
        }
        check.refuses("back", UnsupportedOperationException.class, () -> x.addDependency(11, 0));
        check.equal("isConsistent", true, x.isConsistent());
    }
}
