import java.util.ArrayList;
import java.util.List;
import java.util.function.BiConsumer;
import java.util.function.Consumer;
import java.util.function.Function;

/**
 * Compares two ways to come to a state by all that can be asked afterwards, what undo, restore and the script buffer
 * bring to light included. Each part of the questions is asked of new objects, so that none is used for too many calls.
 */
final class Twins {
    private static final int UNDOS = 8;

    private final TaskLeveller x;
    private final List<String> answers = new ArrayList<>();

    private Twins(TaskLeveller x) {
        this.x = x;
    }

    /** The call must be refused and change nothing in an object that the recipe made. */
    static void refused(Check check, Consumer<TaskLeveller> recipe, Class<? extends RuntimeException> due,
            Function<TaskLeveller, Object> call) {
        String outcome = "throws " + due.getSimpleName();
        same(check, "the refused call changes something:", recipe.andThen(x -> {
            check.equal("the refused call", outcome, Check.outcome(() -> call.apply(x)));
        }), recipe);
    }

    static void same(Check check, String what, Consumer<TaskLeveller> one, Consumer<TaskLeveller> other) {
        List<String> got = answers(one);
        List<String> due = answers(other);
        for (int index = 0; index < due.size(); index++) {
            if (!due.get(index).equals(got.get(index))) {
                check.equal(what, due.get(index), got.get(index));
                return;
            }
        }
        check.equal(what, due, got);
    }

    private static List<String> answers(Consumer<TaskLeveller> recipe) {
        List<String> all = new ArrayList<>();
        part(all, recipe, (twins, x) -> twins.tasks());
        part(all, recipe, (twins, x) -> twins.pairs());
        part(all, recipe, (twins, x) -> twins.days());
        part(all, recipe, (twins, x) -> twins.kept());
        part(all, recipe, (twins, x) -> twins.buffer());
        part(all, recipe, (twins, x) -> {
            twins.ask("restore", x::restore);
            twins.ask("undo behind restore", x::undo);
            twins.tasks();
        });
        for (int undone = 1; undone <= UNDOS + 1; undone++) {
            int times = undone;
            part(all, recipe, (twins, x) -> {
                for (int time = 0; time < times; time++) {
                    twins.ask("undo", x::undo);
                }
                twins.tasks();
            });
        }
        return all;
    }

    private static void part(List<String> all, Consumer<TaskLeveller> recipe,
            BiConsumer<Twins, TaskLeveller> questions) {
        Twins twins = new Twins(new TaskLeveller());
        recipe.accept(twins.x);
        questions.accept(twins, twins.x);
        all.addAll(twins.answers);
    }

    private void ask(String what, Check.Call call) {
        answers.add(what + " = " + Check.outcome(call));
    }

    private void tasks() {
        ask("taskCount", x::taskCount);
        ask("projectLength", x::projectLength);
        ask("levelledLength", x::levelledLength);
        ask("criticalCount", x::criticalCount);
        ask("lastTask", x::lastTask);
        ask("hasBaseline", x::hasBaseline);
        ask("totalDrift", x::totalDrift);
        ask("meanSlack", x::meanSlack);
        ask("isConsistent", x::isConsistent);
        for (int resource = 0; resource < 3; resource++) {
            resource(resource);
        }
        int count = x.taskCount();
        for (int task = 0; task < count; task++) {
            task(task);
            reckoned(task);
        }
    }

    private void resource(int resource) {
        String of = " of resource " + resource;
        ask("limit" + of, () -> x.limit(resource));
        ask("workload" + of, () -> x.workload(resource));
        ask("workloadByDays" + of, () -> x.workloadByDays(resource));
        ask("peakUsage" + of, () -> x.peakUsage(resource));
        ask("utilization" + of, () -> x.utilization(resource));
    }

    private void task(int task) {
        String of = " of task " + task;
        ask("duration" + of, () -> x.duration(task));
        ask("resource" + of, () -> x.resource(task));
        ask("demand" + of, () -> x.demand(task));
        ask("release" + of, () -> x.release(task));
        ask("neededCount" + of, () -> x.neededCount(task));
        ask("dependentCount" + of, () -> x.dependentCount(task));
        ask("baselineStart" + of, () -> x.baselineStart(task));
        ask("drift" + of, () -> x.drift(task));
    }

    private void reckoned(int task) {
        String of = " of " + task;
        ask("earliestStart" + of, () -> x.earliestStart(task));
        ask("earliestStartByRounds" + of, () -> x.earliestStartByRounds(task));
        ask("latestStart" + of, () -> x.latestStart(task));
        ask("slack" + of, () -> x.slack(task));
        ask("isCritical" + of, () -> x.isCritical(task));
        ask("levelledStart" + of, () -> x.levelledStart(task));
        ask("taskInOrder" + of, () -> x.taskInOrder(task));
        ask("taskBySlack" + of, () -> x.taskBySlack(task));
        ask("taskByStart" + of, () -> x.taskByStart(task));
    }

    private void pairs() {
        int count = x.taskCount();
        for (int first = 0; first < count; first++) {
            for (int second = 0; second < count; second++) {
                int task = first;
                int needed = second;
                String of = " of " + task + " and " + needed;
                ask("dependsDirectly" + of, () -> x.dependsDirectly(task, needed));
                ask("depends" + of, () -> x.depends(task, needed));
                ask("dependsByClosure" + of, () -> x.dependsByClosure(task, needed));
            }
        }
    }

    private void days() {
        for (int number = 0; number < 40; number++) {
            int day = number;
            ask("tasksOn " + day, () -> x.tasksOn(day));
            for (int resource = 0; resource < 3; resource++) {
                int of = resource;
                ask("usage of resource " + of + " on " + day, () -> x.usage(of, day));
                ask("usageByTasks of resource " + of + " on " + day, () -> x.usageByTasks(of, day));
            }
        }
    }

    private void kept() {
        ask("errorPosition", x::errorPosition);
        ask("failedCommand", x::failedCommand);
        ask("failureReason", x::failureReason);
        answers.add("the output text is " + Make.text(x));
    }

    /** What has been typed shows in how the script goes on. */
    private void buffer() {
        ask("type", () -> x.type('r'));
        ask("type", () -> x.type('k'));
        ask("runScript", x::runScript);
        ask("errorPosition behind it", x::errorPosition);
        ask("failedCommand behind it", x::failedCommand);
        tasks();
    }
}
