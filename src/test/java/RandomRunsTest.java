/** All promises at once: long runs of calls from fixed seeds, each answer compared with the reference's. */
public final class RandomRunsTest {
    private static final int RUNS = 600;
    private static final int CALLS = 511;

    private static final Check check = new Check();

    private long seed;
    private TaskLeveller x;
    private Reference y;

    public static void main(String[] args) {
        for (int run = 1; run <= RUNS; run++) {
            check.about("run " + run);
            new RandomRunsTest().run(run);
        }
        check.end();
    }

    private void run(int number) {
        seed = number * 7919L;
        x = new TaskLeveller();
        y = new Reference();
        // Some runs have few tasks and links, some are crowded.
        int crowd = number % 4;
        for (int call = 0; call < CALLS; call++) {
            int kind = random(100);
            if (kind < 8 + 6 * crowd) {
                adding();
            } else if (kind < 40) {
                changing();
            } else if (kind < 90) {
                asking();
            } else if (kind < 94) {
                script();
            } else {
                past();
            }
        }
    }

    private int random(int bound) {
        seed = seed * 6364136223846793005L + 1442695040888963407L;
        return (int) ((seed >>> 33) % bound);
    }

    private int number(int lowest, int highest) {
        return random(20) == 0 ? strange() : lowest + random(highest - lowest + 1);
    }

    private int strange() {
        int[] numbers = {-1, 0, 3, 4, 6, 10, 12, 13, 21, 31, 32, 138, Integer.MAX_VALUE, Integer.MIN_VALUE};
        return numbers[random(numbers.length)];
    }

    private int task() {
        return random(10) == 0 ? strange() : random(Math.max(1, y.taskCount()));
    }

    private void both(String what, Check.Call mine, Check.Call due) {
        check.equal(what, Check.outcome(due), Check.outcome(mine));
    }

    private void adding() {
        int a = number(1, 9);
        int b = number(0, 2);
        int c = number(1, 5);
        int d = random(2) == 0 ? number(0, 5) : number(0, 30);
        both("addTask", () -> x.addTask(a, b, c, d), () -> y.addTask(a, b, c, d));
        int t = task();
        int u = task();
        both("addDependency", () -> x.addDependency(t, u), () -> y.addDependency(t, u));
    }

    private void changing() {
        int t = task();
        int u = task();
        switch (random(12)) {
            case 0: both("removeTask", () -> x.removeTask(t), () -> y.removeTask(t)); break;
            case 1: both("removeDependency", () -> x.removeDependency(t, u), () -> y.removeDependency(t, u)); break;
            case 2: int d = number(1, 9);
                both("setDuration", () -> x.setDuration(t, d), () -> y.setDuration(t, d)); break;
            case 3: int r = number(0, 30);
                both("setRelease", () -> x.setRelease(t, r), () -> y.setRelease(t, r)); break;
            case 4: case 5: int k = number(0, 2);
                int l = random(2) == 0 ? 5 : number(5, 20);
                both("setLimit", () -> x.setLimit(k, l), () -> y.setLimit(k, l)); break;
            case 6: both("takeBaseline", () -> x.takeBaseline(), () -> y.takeBaseline()); break;
            default: both("addDependency", () -> x.addDependency(t, u), () -> y.addDependency(t, u)); break;
        }
    }

    private void asking() {
        int t = task();
        int u = task();
        int r = number(0, 2);
        int d = random(3) == 0 ? number(0, 140) : number(0, 40);
        switch (random(38)) {
            case 0: both("taskCount", () -> x.taskCount(), () -> y.taskCount()); break;
            case 1: both("duration", () -> x.duration(t), () -> y.duration(t)); break;
            case 2: both("resource", () -> x.resource(t), () -> y.resource(t)); break;
            case 3: both("demand", () -> x.demand(t), () -> y.demand(t)); break;
            case 4: both("release", () -> x.release(t), () -> y.release(t)); break;
            case 5: both("limit", () -> x.limit(r), () -> y.limit(r)); break;
            case 6: both("dependsDirectly", () -> x.dependsDirectly(t, u), () -> y.dependsDirectly(t, u)); break;
            case 7: both("depends", () -> x.depends(t, u), () -> y.depends(t, u)); break;
            case 8: both("dependsByClosure", () -> x.dependsByClosure(t, u), () -> y.depends(t, u)); break;
            case 9: both("neededCount", () -> x.neededCount(t), () -> y.neededCount(t)); break;
            case 10: both("dependentCount", () -> x.dependentCount(t), () -> y.dependentCount(t)); break;
            case 11: both("taskInOrder", () -> x.taskInOrder(t), () -> y.taskInOrder(t)); break;
            case 12: both("earliestStart", () -> x.earliestStart(t), () -> y.earliestStart(t)); break;
            case 13: both("byRounds", () -> x.earliestStartByRounds(t), () -> y.earliestStart(t)); break;
            case 14: both("latestStart", () -> x.latestStart(t), () -> y.latestStart(t)); break;
            case 15: both("slack", () -> x.slack(t), () -> y.slack(t)); break;
            case 16: both("isCritical", () -> x.isCritical(t), () -> y.isCritical(t)); break;
            case 17: both("projectLength", () -> x.projectLength(), () -> y.projectLength()); break;
            case 18: both("criticalCount", () -> x.criticalCount(), () -> y.criticalCount()); break;
            case 19: both("lastTask", () -> x.lastTask(), () -> y.lastTask()); break;
            case 20: both("levelledStart", () -> x.levelledStart(t), () -> y.levelledStart(t)); break;
            case 21: both("levelledLength", () -> x.levelledLength(), () -> y.levelledLength()); break;
            case 22: both("usage", () -> x.usage(r, d), () -> y.usage(r, d)); break;
            case 23: both("usageByTasks", () -> x.usageByTasks(r, d), () -> y.usage(r, d)); break;
            case 24: both("peakUsage", () -> x.peakUsage(r), () -> y.peakUsage(r)); break;
            case 25: both("tasksOn", () -> x.tasksOn(d), () -> y.tasksOn(d)); break;
            case 26: both("workload", () -> x.workload(r), () -> y.workload(r)); break;
            case 27: both("workloadByDays", () -> x.workloadByDays(r), () -> y.workload(r)); break;
            case 28: both("hasBaseline", () -> x.hasBaseline(), () -> y.hasBaseline()); break;
            case 29: both("baselineStart", () -> x.baselineStart(t), () -> y.baselineStart(t)); break;
            case 30: both("drift", () -> x.drift(t), () -> y.drift(t)); break;
            case 31: both("totalDrift", () -> x.totalDrift(), () -> y.totalDrift()); break;
            case 32: both("taskBySlack", () -> x.taskBySlack(t), () -> y.taskBySlack(t)); break;
            case 33: both("taskByStart", () -> x.taskByStart(t), () -> y.taskByStart(t)); break;
            case 34: both("meanSlack", () -> x.meanSlack(), () -> y.meanSlack()); break;
            case 35: both("utilization", () -> x.utilization(r), () -> y.utilization(r)); break;
            case 36: both("isConsistent", () -> x.isConsistent(), () -> true); break;
            default: rendering(t, r); break;
        }
    }

    private void rendering(int t, int r) {
        if (random(2) == 0) {
            both("renderTask", () -> x.renderTask(t), () -> y.renderTask(t));
        } else {
            both("renderUsage", () -> x.renderUsage(r), () -> y.renderUsage(r));
        }
        for (int index = -1; index <= 40; index++) {
            int i = index;
            both("outputAt", () -> x.outputAt(i), () -> y.outputAt(i));
        }
    }

    private void past() {
        switch (random(16)) {
            case 0: both("save", () -> x.save(), () -> y.save()); break;
            case 1: both("restore", () -> x.restore(), () -> y.restore()); break;
            case 2: char sign = (char) (random(3) == 0 ? random(65536) : 20 + random(120));
                both("type", () -> x.type(sign), () -> y.type(sign)); break;
            case 3: both("errorPosition", () -> x.errorPosition(), () -> y.errorPosition()); break;
            case 4: both("failedCommand", () -> x.failedCommand(), () -> y.failedCommand()); break;
            case 5: both("failureReason", () -> x.failureReason(), () -> y.failureReason()); break;
            default: both("undo", () -> x.undo(), () -> y.undo()); break;
        }
    }

    private void script() {
        StringBuilder text = new StringBuilder();
        int commands = 1 + random(6);
        for (int i = 0; i < commands; i++) {
            text.append(i > 0 ? ";" : "").append(command());
        }
        if (random(3) == 0) {
            spoil(text);
        }
        for (int i = 0; i < text.length(); i++) {
            char sign = text.charAt(i);
            both("type", () -> x.type(sign), () -> y.type(sign));
        }
        both("runScript of " + text, () -> x.runScript(), () -> y.runScript());
        both("errorPosition of " + text, () -> x.errorPosition(), () -> y.errorPosition());
        both("failedCommand of " + text, () -> x.failedCommand(), () -> y.failedCommand());
        both("failureReason of " + text, () -> x.failureReason(), () -> y.failureReason());
    }

    private String command() {
        int t = random(Math.max(1, y.taskCount() + random(2)));
        int u = random(Math.max(1, y.taskCount()));
        switch (random(9)) {
            case 0: case 1: return "task " + (1 + random(9)) + " " + random(3) + " " + (1 + random(5)) + " " + random(32);
            case 2: return "drop " + t;
            case 3: return "link " + t + ">" + u;
            case 4: return "unlink " + t + ">" + u;
            case 5: return "limit " + random(3) + " " + (5 + random(16));
            case 6: return "resize " + t + " " + (random(20) == 0 ? 0 : 1 + random(9));
            case 7: return "delay " + t + " " + random(31);
            default: return "mark";
        }
    }

    private void spoil(StringBuilder text) {
        String signs = "0123456789 ;>abdeiklmnoprstuwyz";
        int changes = 1 + random(2);
        for (int i = 0; i < changes && text.length() > 0; i++) {
            int place = random(text.length());
            char sign = signs.charAt(random(signs.length()));
            switch (random(4)) {
                case 0: text.deleteCharAt(place); break;
                case 1: text.insert(place, sign); break;
                case 2: text.setCharAt(place, sign); break;
                default: text.setLength(place); break;
            }
        }
    }
}
