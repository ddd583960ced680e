/** The sentences of promises 50 to 54 that name a boundary: the buffer, scripts, and what is kept of them. */
final class ScriptBoundaries {
    private static final String NO_SCRIPT = "Throws `NoSuchElementException` if there was no such script";
    private static final String TWELVE_MARKS = "mark;mark;mark;mark;mark;mark;mark;mark;mark;mark;mark;mark";

    private ScriptBoundaries() {
    }

    static void hold(Boundaries sentences) {
        sentences.promise(50, "Returns the length of the script buffer.", ScriptBoundaries::lengths);
        sentences.promise(50, "Throws `IllegalArgumentException` if the character code is not between 32 and 126",
                ScriptBoundaries::codes);
        sentences.promise(50, "Throws `IllegalStateException` if the script buffer has 60 characters",
                ScriptBoundaries::fullBuffer);
        sentences.promise(51, "The buffer is empty afterwards, also if an exception is thrown.",
                ScriptBoundaries::emptyAfterwards);
        sentences.promise(51, "Returns the number of commands.", ScriptBoundaries::commandCounts);
        sentences.promise(51, "Throws `IllegalArgumentException` if the script does not have the required form; "
                + "errorPosition then returns its error position", ScriptBoundaries::wrongForm);
        sentences.promise(51, "Throws `IllegalStateException` if the method for a command throws an exception; no "
                + "command takes effect, and the failure is kept", ScriptBoundaries::failing);
        sentences.promise(52, "Returns the error position of the latest script that did not have the required form.",
                ScriptBoundaries::latestError);
        sentences.promise(52, NO_SCRIPT, ScriptBoundaries::noError);
        sentences.promise(53, "Returns the index of the command that failed in the latest script with a failed "
                + "command.", ScriptBoundaries::latestFailure);
        sentences.promise(53, "Returns the index of the command, counted from 0.", ScriptBoundaries::countedFromZero);
        sentences.promise(53, NO_SCRIPT, () -> noFailure((x, unused) -> x.failedCommand(), 0, 1));
        sentences.promise(54, "Returns the reason for the failure of the command that failed in the latest script "
                + "with a failed command.", ScriptBoundaries::latestReason);
        sentences.promise(54, NO_SCRIPT, () -> noFailure((x, unused) -> x.failureReason(), 'i', 'a'));
    }

    private static void lengths() {
        TaskLeveller x = new TaskLeveller();
        for (int length = 1; length <= 60; length++) {
            Boundaries.equal("the length", length, x.type('m'));
            Boundaries.refuses("a wrong character", Boundaries.ARGUMENT, () -> x.type((char) 31));
        }
        Boundaries.refuses("one too many", Boundaries.STATE, () -> x.type('m'));
        Boundaries.refuses("running it", Boundaries.ARGUMENT, x::runScript);
        Boundaries.equal("the length in an empty buffer", 1, x.type('m'));
    }

    private static void codes() {
        TaskLeveller x = new TaskLeveller();
        for (int code = 0; code < 32; code++) {
            refusesCode(x, code);
        }
        Boundaries.equal("code 32", 1, x.type((char) 32));
        Boundaries.equal("code 33", 2, x.type((char) 33));
        Boundaries.equal("code 125", 3, x.type((char) 125));
        Boundaries.equal("code 126", 4, x.type((char) 126));
        for (int code : new int[] {127, 128, 160, 255, 256, 256 + 32, 256 + 'm', 32767, 32768, 65408, 65535}) {
            refusesCode(x, code);
        }
        Boundaries.equal("the length after the refusals", 5, x.type('m'));
        for (int number = 32; number <= 126; number++) {
            int code = number;
            Boundaries.equal("code " + code + " in an empty buffer", 1, new TaskLeveller().type((char) code));
        }
        Boundaries.changesNothing(Boundaries.ARGUMENT, y -> y.type((char) 31));
        Boundaries.changesNothing(Boundaries.ARGUMENT, y -> y.type((char) 127));
    }

    private static void refusesCode(TaskLeveller x, int code) {
        Boundaries.refuses("code " + code, Boundaries.ARGUMENT, () -> x.type((char) code));
    }

    private static void fullBuffer() {
        TaskLeveller x = new TaskLeveller();
        Make.type(x, TWELVE_MARKS);
        Boundaries.equal("the 60th character", 60, x.type(';'));
        Boundaries.refuses("a 61st character", Boundaries.STATE, () -> x.type('m'));
        Boundaries.refuses("a 61st character again", Boundaries.STATE, () -> x.type(' '));
        Boundaries.refuses("running it", Boundaries.ARGUMENT, x::runScript);
        Boundaries.equal("the first character after it", 1, x.type('m'));
        Twins.refused(Boundaries.check, y -> {
            Make.busy(y);
            Make.type(y, "rk;" + TWELVE_MARKS.substring(5));
            Boundaries.equal("the 60th character", 60, y.type(';'));
        }, Boundaries.STATE, y -> y.type(';'));
        TaskLeveller kept = new TaskLeveller();
        Make.type(kept, "limit 0 20;" + TWELVE_MARKS.substring(10));
        Boundaries.refuses("a digit too many", Boundaries.STATE, () -> kept.type('1'));
        Boundaries.equal("the script of 60 characters", 11, kept.runScript());
    }

    private static void emptyAfterwards() {
        TaskLeveller x = new TaskLeveller();
        Boundaries.equal("a good script", 1, Make.run(x, "mark"));
        Boundaries.equal("the length after it", 1, x.type('m'));
        Boundaries.refuses("a script that ends too early", Boundaries.ARGUMENT, x::runScript);
        Boundaries.equal("the length after it", 1, x.type('m'));
        Boundaries.equal("a wrong script", "throws IllegalArgumentException", Make.run(x, "arm"));
        Boundaries.equal("the length after it", 1, x.type('d'));
        Boundaries.equal("a failing script", "throws IllegalStateException", Make.run(x, "rop 0"));
        Boundaries.equal("the length after it", 1, x.type('m'));
        Boundaries.equal("a good one", 1, Make.run(x, "ark"));
        Boundaries.refuses("nothing is left", Boundaries.ARGUMENT, x::runScript);
        Boundaries.equal("its position", 0, x.errorPosition());
        Make.type(x, TWELVE_MARKS);
        x.type('?');
        Boundaries.refuses("a full buffer", Boundaries.ARGUMENT, x::runScript);
        Boundaries.equal("a full buffer again", 12, Make.run(x, TWELVE_MARKS));
        Make.type(x, TWELVE_MARKS.substring(10) + ";drop 12");
        Boundaries.refuses("a failing script in a long buffer", Boundaries.STATE, x::runScript);
        Boundaries.equal("the length after it", 1, x.type('m'));
    }

    private static void commandCounts() {
        TaskLeveller x = new TaskLeveller();
        for (int count = 1; count <= 12; count++) {
            Boundaries.equal(count + " commands", count, Make.run(x, TWELVE_MARKS.substring(0, 5 * count - 1)));
        }
        Boundaries.equal("after a longer script", 1, Make.run(x, "mark"));
        String longest = "task 1 0 1 10";
        Boundaries.equal("four of the longest", 4, Make.run(x, longest + (";" + longest).repeat(3)));
    }

    private static void wrongForm() {
        TaskLeveller x = new TaskLeveller();
        Boundaries.refuses("an empty script", Boundaries.ARGUMENT, x::runScript);
        Boundaries.equal("its error position", 0, x.errorPosition());
        Boundaries.equal("one that ends too early", "throws IllegalArgumentException", Make.run(x, "mar"));
        Boundaries.equal("its error position", 3, x.errorPosition());
        Boundaries.equal("one with a letter too many", "throws IllegalArgumentException",
                Make.run(x, "task 1 0 1 0;markk"));
        Boundaries.equal("its error position", 17, x.errorPosition());
        Boundaries.equal("nothing was done", 0, x.taskCount());
        Boundaries.refuses("nothing can be undone", Boundaries.STATE, x::undo);
        Boundaries.refuses("no failure is kept", Boundaries.NOTHING, x::failedCommand);
        Boundaries.equal("a wrong form behind a failing command", "throws IllegalArgumentException",
                Make.run(x, "drop 0;mark;"));
        Boundaries.equal("its error position", 12, x.errorPosition());
        Boundaries.refuses("still no failure is kept", Boundaries.NOTHING, x::failedCommand);
        TaskLeveller busy = Make.busy();
        String text = Make.text(busy);
        Boundaries.refuses("the script of a busy object", Boundaries.ARGUMENT, busy::runScript);
        Boundaries.equal("the output text", text, Make.text(busy));
        Boundaries.equal("the failed command", 0, busy.failedCommand());
        Boundaries.equal("its reason", 'i', busy.failureReason());
        Twins.same(Boundaries.check, "besides the buffer and the error position, something changes:", y -> {
            Make.busy(y);
            Boundaries.equal("the wrong script", "throws IllegalArgumentException", Make.run(y, "rk;drop 0;drop 9;"));
            Boundaries.equal("its error position", 19, y.errorPosition());
            Make.run(y, "mar?");
            Make.type(y, "ma");
        }, y -> {
            Make.busy(y);
            Make.run(y, "r?");
            Make.type(y, "ma");
        });
    }

    private static void fails(TaskLeveller x, int index, char reason, String script) {
        Boundaries.equal("\"" + script + "\"", "throws IllegalStateException", Make.run(x, script));
        Boundaries.equal("the failed command of \"" + script + "\"", index, Check.outcome(x::failedCommand));
        Boundaries.equal("the reason in \"" + script + "\"", reason, Check.outcome(x::failureReason));
    }

    private static void failing() {
        TaskLeveller x = new TaskLeveller();
        fails(x, 0, 'i', "drop 0");
        fails(x, 1, 'i', "task 1 0 1 0;drop 1");
        Boundaries.equal("no task was added", 0, x.taskCount());
        fails(x, 3, 'a', "task 1 0 1 0;mark;limit 0 5;limit 0 4");
        Boundaries.equal("no baseline was taken", false, x.hasBaseline());
        Boundaries.equal("no limit was set", 10, x.limit(0));
        fails(x, 10, 'i', "mark;".repeat(10) + "drop 0");
        Boundaries.refuses("nothing can be undone", Boundaries.STATE, x::undo);
        Boundaries.refuses("no error position is kept", Boundaries.NOTHING, x::errorPosition);
        TaskLeveller busy = Make.busy();
        String text = Make.text(busy);
        fails(busy, 1, 'a', "rk;limit 0 4");
        Boundaries.equal("the output text", text, Make.text(busy));
        Boundaries.equal("the error position", 5, busy.errorPosition());
        Twins.same(Boundaries.check, "besides the buffer and the failure, something changes:", y -> {
            Make.busy(y);
            fails(y, 2, 'a', "rk;drop 0;delay 0 31");
            Make.type(y, "ma");
        }, y -> {
            Make.busy(y);
            fails(y, 2, 'a', "rk;mark;limit 0 21");
            Make.type(y, "ma");
        });
        Twins.same(Boundaries.check, "a failing script that does much changes something:", y -> {
            Make.busy(y);
            fails(y, 4, 'u', "rk;resize 0 9;delay 1 9;mark;link 0>3;drop 0;limit 1 20");
            Make.type(y, "ma");
        }, y -> {
            Make.busy(y);
            fails(y, 4, 'u', "rk;mark;mark;mark;link 0>3");
            Make.type(y, "ma");
        });
    }

    private static void latestError() {
        TaskLeveller x = new TaskLeveller();
        Make.run(x, "markk");
        Boundaries.equal("of the first wrong script", 4, x.errorPosition());
        Make.run(x, "mark");
        Boundaries.equal("after a good script", 4, x.errorPosition());
        Make.run(x, "mark;drop 0");
        Boundaries.equal("after a failing script", 4, x.errorPosition());
        Make.run(x, "");
        Boundaries.equal("of an empty one", 0, x.errorPosition());
        Make.run(x, TWELVE_MARKS + ";");
        Boundaries.equal("of a full buffer that ends too early", 60, x.errorPosition());
        Make.run(x, TWELVE_MARKS + "?");
        Boundaries.equal("of a full buffer with a wrong last character", 59, x.errorPosition());
        Make.run(x, "x");
        Boundaries.equal("of the latest one", 0, x.errorPosition());
        x.type('?');
        Boundaries.equal("before a script is run", 0, x.errorPosition());
    }

    private static void noError() {
        TaskLeveller x = new TaskLeveller();
        Boundaries.refuses("at first", Boundaries.NOTHING, x::errorPosition);
        Make.run(x, "mark");
        Boundaries.refuses("after a good script", Boundaries.NOTHING, x::errorPosition);
        Make.run(x, "drop 0");
        Boundaries.refuses("after a failing script", Boundaries.NOTHING, x::errorPosition);
        x.type('?');
        Boundaries.refuses("before a wrong script is run", Boundaries.NOTHING, x::errorPosition);
        Boundaries.refuses("a wrong script", Boundaries.ARGUMENT, x::runScript);
        Boundaries.equal("after a script that was wrong from index 0 on", 0, x.errorPosition());
        Twins.refused(Boundaries.check, Make::plain, Boundaries.NOTHING, y -> y.errorPosition());
        Twins.refused(Boundaries.check, y -> Make.run(y, "task 1 0 1 0;mark"), Boundaries.NOTHING,
                y -> y.errorPosition());
    }

    private static void latestFailure() {
        TaskLeveller x = new TaskLeveller();
        fails(x, 2, 'i', "mark;mark;drop 0");
        Make.run(x, "mark");
        Boundaries.equal("after a good script", 2, x.failedCommand());
        Make.run(x, "mark;mark;mark;mark;");
        Boundaries.equal("after a wrong script", 2, x.failedCommand());
        Make.run(x, "drop 0;");
        Boundaries.equal("after a wrong script that would fail", 2, x.failedCommand());
        fails(x, 0, 'i', "drop 0;drop 0;drop 0");
        fails(x, 1, 'a', "mark;limit 0 4");
        Boundaries.refuses("a failing call beside scripts", Boundaries.INDEX, () -> x.removeTask(0));
        Boundaries.equal("after a failing call", 1, x.failedCommand());
    }

    private static void countedFromZero() {
        for (int index = 0; index < 11; index++) {
            fails(new TaskLeveller(), index, 'i', "mark;".repeat(index) + "drop 0");
        }
        fails(new TaskLeveller(), 5, 'i', "mark;mark;mark;mark;mark;drop 0;drop 0;mark");
    }

    private static void noFailure(Boundaries.Ask ask, Object first, Object second) {
        TaskLeveller x = new TaskLeveller();
        Boundaries.refuses("at first", Boundaries.NOTHING, () -> ask.of(x, 0));
        Make.run(x, "mark");
        Boundaries.refuses("after a good script", Boundaries.NOTHING, () -> ask.of(x, 0));
        Make.run(x, "drop 0;");
        Boundaries.refuses("after a wrong script", Boundaries.NOTHING, () -> ask.of(x, 0));
        Boundaries.refuses("a failing call beside scripts", Boundaries.INDEX, () -> x.removeTask(0));
        Boundaries.refuses("after a failing call", Boundaries.NOTHING, () -> ask.of(x, 0));
        Make.run(x, "drop 0");
        Boundaries.equal("after a script whose first command failed", first, ask.of(x, 0));
        Make.run(x, "mark;limit 3 5");
        Boundaries.equal("after a script whose second command failed", second, ask.of(x, 0));
        Twins.refused(Boundaries.check, Make::plain, Boundaries.NOTHING, y -> ask.of(y, 0));
        Twins.refused(Boundaries.check, y -> Make.run(y, "task 1 0 1 0;mar"), Boundaries.NOTHING, y -> ask.of(y, 0));
    }

    private static void latestReason() {
        TaskLeveller x = new TaskLeveller();
        fails(x, 0, 'a', "limit 0 4");
        Make.run(x, "mark");
        Boundaries.equal("after a good script", 'a', x.failureReason());
        Make.run(x, "drop 0;");
        Boundaries.equal("after a wrong script", 'a', x.failureReason());
        fails(x, 0, 'i', "drop 0");
        fails(x, 3, 'u', "task 1 0 1 0;task 1 0 1 0;link 0>1;link 1>0");
        Make.addTasks(x, 11);
        fails(x, 1, 's', "task 1 0 1 0;task 1 0 1 0");
        fails(x, 1, 'a', "task 1 0 1 0;task 0 0 1 0");
        Boundaries.refuses("a failing call beside scripts", Boundaries.INDEX, () -> x.removeTask(11));
        Boundaries.equal("after a failing call", 'a', x.failureReason());
    }
}
