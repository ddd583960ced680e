/** Objects in the states that the tests of single sentences begin with. */
final class Make {
    private Make() {
    }

    /** So many tasks of one day, each with one unit of resource 0 from day 0 on. */
    static TaskLeveller tasks(int count) {
        TaskLeveller x = new TaskLeveller();
        addTasks(x, count);
        return x;
    }

    static void addTasks(TaskLeveller x, int count) {
        for (int task = 0; task < count; task++) {
            x.addTask(1, 0, 1, 0);
        }
    }

    /** So many tasks, each of which depends on the one that was added before it. */
    static TaskLeveller chain(int count, int duration, int release) {
        TaskLeveller x = new TaskLeveller();
        for (int task = 0; task < count; task++) {
            x.addTask(duration, 0, 5, release);
            if (task > 0) {
                x.addDependency(task, task - 1);
            }
        }
        return x;
    }

    /** So many tasks, each of which depends on all those that were added before it. */
    static TaskLeveller triangle(int count) {
        TaskLeveller x = tasks(count);
        for (int task = 0; task < count; task++) {
            for (int needed = 0; needed < task; needed++) {
                x.addDependency(task, needed);
            }
        }
        return x;
    }

    /**
     * Something of everything: more than 8 changes, a baseline, a snapshot, a wrong script and a failed one. The limit
     * sets its tasks 0 to 2 apart, and 3 has no baseline start.
     */
    static void busy(TaskLeveller x) {
        x.addTask(3, 0, 4, 0);
        x.addTask(2, 0, 3, 1);
        x.addTask(4, 0, 5, 2);
        x.addDependency(1, 0);
        x.takeBaseline();
        x.save();
        x.setLimit(0, 6);
        x.addTask(1, 1, 2, 7);
        x.setRelease(0, 2);
        x.addDependency(3, 1);
        x.setDuration(2, 5);
        x.setLimit(1, 7);
        run(x, "drop 9");
        run(x, "mark;?");
        x.renderTask(1);
        type(x, "ma");
    }

    static TaskLeveller busy() {
        TaskLeveller x = new TaskLeveller();
        busy(x);
        return x;
    }

    /** Fewer than 8 changes, a text and a script half typed; no baseline, no snapshot, and no script that was run. */
    static void plain(TaskLeveller x) {
        x.addTask(3, 0, 4, 0);
        x.addTask(2, 0, 3, 1);
        x.addTask(4, 0, 5, 2);
        x.addDependency(1, 0);
        x.setLimit(0, 6);
        x.setDuration(2, 5);
        x.renderTask(1);
        type(x, "ma");
    }

    /** A busy object all of whose tasks are gone. */
    static void emptied(TaskLeveller x) {
        busy(x);
        for (int task = 0; task < 4; task++) {
            x.removeTask(0);
        }
    }

    static void type(TaskLeveller x, String script) {
        for (int index = 0; index < script.length(); index++) {
            x.type(script.charAt(index));
        }
    }

    static Object run(TaskLeveller x, String script) {
        type(x, script);
        return Check.outcome(x::runScript);
    }

    /** The output text, read up to the first index that is refused; a text without an end is cut off. */
    static String text(TaskLeveller x) {
        StringBuilder text = new StringBuilder();
        for (int place = 0; place < 450; place++) {
            int index = place;
            Object sign = Check.outcome(() -> x.outputAt(index));
            if (!(sign instanceof Character)) {
                return text.toString();
            }
            text.append(sign);
        }
        return text + "..";
    }
}
