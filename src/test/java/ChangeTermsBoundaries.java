import java.util.List;
import java.util.function.Consumer;
import java.util.function.Function;

/** The sentences of the terms that name a boundary: changes, what undo and the snapshot cover, and exceptions. */
final class ChangeTermsBoundaries {
    private ChangeTermsBoundaries() {
    }

    static void hold(Boundaries sentences) {
        sentences.term(55, "A change is a call of addTask, removeTask, addDependency, removeDependency, setLimit, "
                + "setDuration, setRelease, takeBaseline or runScript that returns normally, even if the state is the "
                + "same afterwards.", ChangeTermsBoundaries::changes);
        sentences.term(55, "The latest 8 changes can be undone, the latest one first.",
                ChangeTermsBoundaries::latestEight);
        sentences.term(57, "Undo and the snapshot cover everything except the script buffer, the error position, the "
                + "index of the failed command and its reason, the output text and the snapshot itself.",
                ChangeTermsBoundaries::covered);
        sentences.term(2, "A method that throws an exception changes nothing, unless its description says otherwise.",
                ChangeTermsBoundaries::refusedCalls);
        sentences.term(4, "If several exceptions apply, the one that is listed first is thrown.",
                ChangeTermsBoundaries::firstListed);
    }

    /** A call of a busy object, with its script buffer empty, that leaves the state as it is. */
    private static List<Consumer<TaskLeveller>> idleChanges() {
        return List.of(x -> x.addDependency(1, 0), x -> x.removeDependency(0, 1), x -> x.setLimit(0, 6),
                x -> x.setDuration(2, 5), x -> x.setRelease(0, 2), x -> Make.run(x, "limit 1 7"),
                x -> Make.run(x, "unlink 0>1;link 1>0"), x -> Make.run(x, "drop 3;task 1 1 2 7;link 3>1"));
    }

    private static List<Consumer<TaskLeveller>> realChanges() {
        return List.of(x -> x.addTask(1, 0, 1, 0), x -> x.removeTask(0), x -> x.addDependency(0, 2),
                x -> x.removeDependency(1, 0), x -> x.setLimit(0, 20), x -> x.setDuration(0, 9),
                x -> x.setRelease(0, 30), x -> x.takeBaseline(), x -> Make.run(x, "drop 0;mark;limit 0 5"));
    }

    private static List<Consumer<TaskLeveller>> noChanges() {
        return List.of(x -> x.taskCount(), x -> x.projectLength(), x -> x.levelledStart(0), x -> x.isConsistent(),
                x -> x.totalDrift(), x -> x.renderTask(0), x -> x.renderUsage(0), x -> x.outputAt(0), x -> x.type('m'),
                x -> x.save(), x -> Make.run(x, "drop 9"), x -> Make.run(x, "mark;"), x -> Make.run(x, ""),
                x -> Check.outcome(() -> x.removeTask(9)), x -> Check.outcome(() -> x.addTask(0, 0, 0, 0)),
                x -> Check.outcome(() -> x.addDependency(0, 1)), x -> Check.outcome(() -> x.setLimit(0, 0)));
    }

    private static TaskLeveller restored() {
        TaskLeveller x = new TaskLeveller();
        Make.busy(x);
        Make.run(x, "?");
        x.save();
        x.restore();
        return x;
    }

    private static void changes() {
        TaskLeveller x = restored();
        Boundaries.refuses("the object has nothing to undo", Boundaries.STATE, x::undo);
        for (Consumer<TaskLeveller> change : realChanges()) {
            TaskLeveller one = restored();
            change.accept(one);
            Boundaries.equal("a change alone", 0, Check.outcome(one::undo));
        }
        int place = 0;
        for (Consumer<TaskLeveller> change : idleChanges()) {
            TaskLeveller one = restored();
            change.accept(one);
            Boundaries.equal("change " + place + " that changes nothing", 0, Check.outcome(one::undo));
            place++;
        }
        place = 0;
        for (Consumer<TaskLeveller> call : noChanges()) {
            TaskLeveller one = restored();
            one.setLimit(2, 5);
            call.accept(one);
            Boundaries.equal("call " + place + " that is no change", 0, Check.outcome(one::undo));
            Boundaries.equal("call " + place + " that is no change leaves the change", 10, one.limit(2));
            place++;
        }
        TaskLeveller marked = new TaskLeveller();
        marked.takeBaseline();
        marked.takeBaseline();
        Boundaries.equal("the same baseline again", 1, marked.undo());
        Boundaries.equal("the earlier of the two", true, marked.hasBaseline());
    }

    private static void latestEight() {
        for (int changes = 7; changes <= 30; changes++) {
            TaskLeveller x = Make.tasks(1);
            for (int release = 1; release <= changes; release++) {
                x.setRelease(0, release);
            }
            int most = Math.min(8, changes + 1);
            for (int undone = 1; undone <= most; undone++) {
                Boundaries.equal(changes + " changes and one, still to undo", most - undone, x.undo());
                int due = changes - undone;
                Boundaries.equal(changes + " changes, " + undone + " undone", due < 0 ? 0 : 1, x.taskCount());
                if (due >= 0) {
                    Boundaries.equal(changes + " changes, " + undone + " undone", due, x.release(0));
                }
            }
            Boundaries.refuses("a ninth of " + changes, Boundaries.STATE, x::undo);
        }
    }

    private static void covered() {
        for (Consumer<TaskLeveller> change : realChanges()) {
            // The questions in between show what is reckoned too early.
            Consumer<TaskLeveller> asked = change.andThen(x -> x.isConsistent());
            for (Consumer<TaskLeveller> made : List.<Consumer<TaskLeveller>>of(Make::plain, Make::busy)) {
                Consumer<TaskLeveller> base = made.andThen(x -> Make.run(x, "?"));
                Twins.same(Boundaries.check, "restore leaves something of a change:",
                        base.andThen(x -> x.save()).andThen(asked).andThen(x -> x.restore()),
                        base.andThen(x -> x.save()).andThen(x -> x.restore()));
            }
            // A plain object has less than eight changes, so undo leaves those that it had before.
            Consumer<TaskLeveller> plain = x -> {
                Make.plain(x);
                Make.run(x, "?");
            };
            Twins.same(Boundaries.check, "undo leaves something of a change:",
                    plain.andThen(asked).andThen(x -> x.undo()), plain);
        }
        notCovered(x -> x.undo());
        notCovered(x -> x.restore());
        TaskLeveller saved = Make.tasks(2);
        saved.save();
        saved.removeTask(0);
        saved.undo();
        saved.removeTask(0);
        saved.save();
        saved.undo();
        Boundaries.equal("undo leaves the snapshot", 1, saved.restore());
        Boundaries.equal("restore leaves the snapshot", 1, saved.restore());
    }

    private static void notCovered(Consumer<TaskLeveller> back) {
        TaskLeveller x = Make.tasks(2);
        x.save();
        x.setLimit(0, 5);
        Make.run(x, "mark;link 0>0");
        Make.run(x, "mark?");
        int length = x.renderTask(1);
        Make.type(x, "mar");
        back.accept(x);
        Boundaries.equal("the limit is covered", 10, x.limit(0));
        Boundaries.equal("the error position is not", 4, x.errorPosition());
        Boundaries.equal("the failed command is not", 1, x.failedCommand());
        Boundaries.equal("its reason is not", 'a', x.failureReason());
        Boundaries.equal("the output text is not", "1:1x1r0@0!", Make.text(x));
        Boundaries.equal("its length", 10, length);
        Boundaries.equal("the script buffer is not", 4, x.type('k'));
        Boundaries.equal("the script", 1, x.runScript());
    }

    private static void refusedCalls() {
        List<Function<TaskLeveller, Object>> calls = List.of(x -> x.addTask(10, 0, 1, 0), x -> x.removeTask(4),
                x -> x.addDependency(4, 0), x -> x.addDependency(2, 2), x -> x.addDependency(0, 3),
                x -> x.removeDependency(0, 4), x -> x.setDuration(4, 1), x -> x.setDuration(0, 10),
                x -> x.setRelease(4, 1), x -> x.setRelease(0, 31), x -> x.setLimit(3, 5), x -> x.setLimit(0, 21),
                x -> x.taskInOrder(4), x -> x.levelledStart(4), x -> x.usage(0, -1), x -> x.baselineStart(3),
                x -> x.drift(3), x -> x.taskBySlack(4), x -> x.taskByStart(-1), x -> x.utilization(3),
                x -> x.renderTask(4), x -> x.renderUsage(3), x -> x.outputAt(99), x -> x.type((char) 127));
        Twins.same(Boundaries.check, "the refused calls change something:", x -> {
            Make.busy(x);
            int place = 0;
            for (Function<TaskLeveller, Object> call : calls) {
                String outcome = "" + Check.outcome(() -> call.apply(x));
                Boundaries.equal("whether call " + place + " is refused", true, outcome.startsWith("throws "));
                place++;
            }
        }, Make::busy);
        Consumer<TaskLeveller> full = x -> {
            Make.busy(x);
            Make.addTasks(x, 8);
            x.renderUsage(0);
        };
        Twins.refused(Boundaries.check, full, Boundaries.STATE, x -> x.addTask(1, 0, 1, 0));
        Twins.refused(Boundaries.check, full, Boundaries.INDEX, x -> x.removeTask(12));
        Twins.refused(Boundaries.check, full, Boundaries.INDEX, x -> x.renderTask(12));
        Twins.refused(Boundaries.check, Make::plain, Boundaries.NOTHING, x -> x.totalDrift());
        Twins.refused(Boundaries.check, Make::plain, Boundaries.STATE, x -> x.restore());
        Twins.refused(Boundaries.check, Make::plain, Boundaries.NOTHING, x -> x.errorPosition());
        Twins.refused(Boundaries.check, Make::plain, Boundaries.NOTHING, x -> x.failedCommand());
        Twins.refused(Boundaries.check, Make::emptied, Boundaries.ARITHMETIC, x -> x.meanSlack());
        Twins.refused(Boundaries.check, Make::emptied, Boundaries.NOTHING, x -> x.lastTask());
        // The description of runScript says otherwise: its buffer is empty afterwards.
        TaskLeveller x = Make.busy();
        Boundaries.refuses("a script that ends too early", Boundaries.ARGUMENT, x::runScript);
        Boundaries.equal("the buffer behind it", 1, x.type('m'));
    }

    private static void firstListed() {
        TaskLeveller full = Make.tasks(12);
        Boundaries.refuses("addTask, wrong and full", Boundaries.ARGUMENT, () -> full.addTask(10, 0, 1, 0));
        Boundaries.refuses("addTask, wrong in the last argument and full", Boundaries.ARGUMENT,
                () -> full.addTask(1, 0, 1, 31));
        Boundaries.refuses("addDependency, no such task twice", Boundaries.INDEX, () -> full.addDependency(12, 12));
        Boundaries.refuses("addDependency, -1 twice", Boundaries.INDEX, () -> full.addDependency(-1, -1));
        Boundaries.refuses("setDuration, both wrong", Boundaries.INDEX, () -> full.setDuration(12, 10));
        Boundaries.refuses("setRelease, both wrong", Boundaries.INDEX, () -> full.setRelease(12, 31));
        Boundaries.refuses("baselineStart, no task and no start", Boundaries.INDEX, () -> full.baselineStart(12));
        Boundaries.refuses("drift, no task and no start", Boundaries.INDEX, () -> full.drift(12));
        TaskLeveller none = new TaskLeveller();
        Boundaries.refuses("utilization, no resource and no tasks", Boundaries.ARGUMENT, () -> none.utilization(3));
        Boundaries.refuses("setDuration, both wrong without tasks", Boundaries.INDEX, () -> none.setDuration(0, 0));
        Boundaries.refuses("setRelease, both wrong without tasks", Boundaries.INDEX, () -> none.setRelease(0, -1));
        Boundaries.refuses("addDependency, 0 twice without tasks", Boundaries.INDEX, () -> none.addDependency(0, 0));
        Make.type(none, "?".repeat(60));
        Boundaries.refuses("type, a wrong character and a full buffer", Boundaries.ARGUMENT,
                () -> none.type((char) 31));
        Boundaries.refuses("type, a full buffer alone", Boundaries.STATE, () -> none.type(' '));
        Boundaries.refuses("runScript, a wrong form alone", Boundaries.ARGUMENT, none::runScript);
        Make.type(none, "drop 0;?");
        Boundaries.refuses("runScript, a command that would fail and a wrong form", Boundaries.ARGUMENT,
                none::runScript);
    }
}
