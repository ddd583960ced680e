import java.util.function.Consumer;

/** The sentences of the terms that name a boundary, from scripts on. */
final class ScriptTermsBoundaries {
    private static final String TWELVE_MARKS = "mark;mark;mark;mark;mark;mark;mark;mark;mark;mark;mark;mark";

    private ScriptTermsBoundaries() {
    }

    static void hold(Boundaries sentences) {
        sentences.term(50, "A script is typed into a buffer of at most 60 characters and then run.",
                ScriptTermsBoundaries::sixtyCharacters);
        sentences.term(51, "`script = command { \";\" command`}", ScriptTermsBoundaries::scripts);
        sentences.term(51, "`command = \"task \" digit \" \" digit \" \" digit \" \" number | \"drop \" number | "
                + "( \"link \" | \"unlink \" ) number \">\" number | \"limit \" digit \" \" number | "
                + "\"resize \" number \" \" digit | \"delay \" number \" \" number | \"mark\"`",
                ScriptTermsBoundaries::commands);
        sentences.term(51, "`number = digit [ digit ]`", ScriptTermsBoundaries::numbers);
        sentences.term(51, "where braces mean zero or more repetitions, brackets an optional part, parentheses a "
                + "group, and a bar an alternative.", ScriptTermsBoundaries::repetitions);
        sentences.term(51, "The commands call addTask, removeTask, addDependency, removeDependency, setLimit, "
                + "setDuration, setRelease and takeBaseline with the numbers as arguments in the same order.",
                ScriptTermsBoundaries::sameCalls);
        sentences.term(51, "Commands are executed in order, and either all of them take effect or none.",
                ScriptTermsBoundaries::allOrNone);
        sentences.term(52, "The error position of a script that does not have this form is the index of the first "
                + "character that cannot continue any script of this form, or the length of the script if every "
                + "character can and the script ends too early.", ScriptTermsBoundaries::errorPositions);
        sentences.term(53, "When a script fails because the method for a command throws an exception, the index of "
                + "the command and the reason are kept.", ScriptTermsBoundaries::keptFailures);
        sentences.term(54, "The reason is 'i' for IndexOutOfBoundsException, 'a' for IllegalArgumentException, 's' for "
                + "IllegalStateException, 'n' for NoSuchElementException, and 'u' for UnsupportedOperationException.",
                ScriptTermsBoundaries::reasons);
    }

    private static void sixtyCharacters() {
        TaskLeveller x = new TaskLeveller();
        Make.type(x, "limit 0 20;" + TWELVE_MARKS.substring(10));
        Boundaries.refuses("a 61st character", Boundaries.STATE, () -> x.type(';'));
        Boundaries.equal("the script of 60 characters", 11, x.runScript());
        Boundaries.equal("what its first command did", 20, x.limit(0));
        Make.type(x, TWELVE_MARKS);
        Boundaries.equal("the script of 59 characters", 12, x.runScript());
        Make.type(x, TWELVE_MARKS + ";");
        Boundaries.refuses("60 characters that end too early", Boundaries.ARGUMENT, x::runScript);
        Boundaries.equal("a buffer after that", 1, x.type('m'));
    }

    private static void hasForm(boolean due, String... scripts) {
        for (String script : scripts) {
            TaskLeveller x = Make.tasks(2);
            Object outcome = Make.run(x, script);
            boolean hasForm = outcome instanceof Integer || outcome.equals("throws IllegalStateException");
            boolean hasNot = outcome.equals("throws IllegalArgumentException");
            Boundaries.equal("whether \"" + script + "\" has the form (" + outcome + ")", due, hasForm);
            Boundaries.equal("whether \"" + script + "\" is refused (" + outcome + ")", !due, hasNot);
        }
    }

    private static void scripts() {
        hasForm(true, "mark", "mark;mark", "drop 0;mark", "mark;drop 0", "drop 10;drop 1", TWELVE_MARKS);
        hasForm(false, "", ";", ";;", ";mark", "mark;", "mark;;mark", "mark;mark;", "mark; mark", "mark ;mark", " mark",
                "mark ", "mark,mark", "mark mark", "markmark", "mark:mark", "drop 1drop 1", "drop 1;;",
                TWELVE_MARKS + ";");
    }

    private static void commands() {
        hasForm(true, "task 0 0 0 0", "task 9 9 9 99", "task 1 0 1 09", "drop 0", "drop 99", "link 0>0", "link 99>99",
                "link 0>99", "link 99>0", "unlink 0>0", "unlink 99>99", "limit 0 0", "limit 9 99", "resize 0 0",
                "resize 99 9", "delay 0 0", "delay 99 99", "delay 0 99", "delay 99 0", "mark");
        hasForm(false, "task 10 0 1 0", "task 1 10 1 0", "task 1 0 10 0", "task 1 0 1 100", "task 1 0 1", "task 1 0 1 ",
                "task 1 0 1 0 0", "task  1 0 1 0", "task 1  0 1 0", "task1 0 1 0", "task 1,0,1,0", "task -1 0 1 0");
        hasForm(false, "drop", "drop ", "drop 100", "drop 1 1", "drop  1", "drop -1", "drop1", "Drop 1", "DROP 1");
        hasForm(false, "link 1", "link 1>", "link >1", "link 1>100", "link 100>1", "link 1<0", "link 1 0", "link 1 > 0",
                "link 1>0>1", "unlink 1", "unlink 1>", "unlink >1", "unlink 1>100", "unlink 100>1", "unlink 1 0");
        hasForm(false, "limit 1", "limit 1 ", "limit 10 5", "limit 1 100", "limit  1 5", "limit 1>5", "limit 1 5 5");
        hasForm(false, "resize 1", "resize 1 ", "resize 100 5", "resize 1 10", "resize 1>5", "resize  1 5");
        hasForm(false, "delay 1", "delay 1 ", "delay 100 5", "delay 1 100", "delay 1>5", "delay 1  5");
        hasForm(false, "mark 0", "marks", "mar", "Mark", "unmark", "undo", "save", "release 0 5", "duration 0 5");
    }

    private static void numbers() {
        hasForm(true, "drop 0", "drop 9", "drop 00", "drop 09", "drop 10", "drop 99");
        hasForm(false, "drop ", "drop 000", "drop 001", "drop 100", "drop /", "drop :", "drop a", "drop A", "drop -",
                "drop -1", "drop +1", "drop 1a", "drop 1/", "drop 1:", "drop 1.", "drop 0x");
        TaskLeveller x = Make.tasks(12);
        String[] texts = {"0", "00", "01", "7", "07", "9", "09", "10", "19", "20", "29", "30"};
        int[] due = {0, 0, 1, 7, 7, 9, 9, 10, 19, 20, 29, 30};
        for (int place = 0; place < texts.length; place++) {
            Boundaries.equal("a delay by " + texts[place], 1, Make.run(x, "delay 0 " + texts[place]));
            Boundaries.equal("the release day", due[place], x.release(0));
        }
        Boundaries.equal("index 11", 1, Make.run(x, "delay 11 05"));
        Boundaries.equal("its release day", 5, x.release(11));
        Boundaries.equal("index 09", 1, Make.run(x, "delay 09 6"));
        Boundaries.equal("its release day", 6, x.release(9));
        for (String wrong : new String[] {"delay 0 31", "delay 0 99", "delay 12 0", "delay 99 0"}) {
            Boundaries.equal(wrong, "throws IllegalStateException", Make.run(x, wrong));
        }
    }

    private static void repetitions() {
        hasForm(true, "mark", "mark;mark", "mark;mark;mark", "mark;mark;mark;mark;mark;mark;mark;mark;mark;mark;mark",
                "delay 1 1", "delay 11 1", "delay 1 11", "delay 11 11", "link 1>1", "unlink 1>1",
                "link 1>1;unlink 1>1");
        hasForm(false, "{mark}", "mark{;mark}", "delay [1] 1", "(link 1>1", "(link )1>1", "linkunlink 1>1",
                "link unlink 1>1", "ununlink 1>1", "un link 1>1", "mark|mark", "drop 1|mark", "limitresize 1 1", "un");
    }

    /** The script must do the same as the call; the base takes away what a busy object's buffer holds. */
    private static void same(Consumer<TaskLeveller> direct, String script) {
        Consumer<TaskLeveller> base = x -> {
            Make.busy(x);
            Make.run(x, "?");
        };
        Twins.same(Boundaries.check, "\"" + script + "\" differs from the call:",
                base.andThen(x -> Boundaries.equal("\"" + script + "\"", 1, Make.run(x, script))),
                base.andThen(direct));
    }

    private static void sameCalls() {
        same(x -> x.addTask(1, 0, 1, 0), "task 1 0 1 0");
        same(x -> x.addTask(9, 2, 5, 30), "task 9 2 5 30");
        same(x -> x.addTask(2, 1, 3, 4), "task 2 1 3 04");
        same(x -> x.removeTask(0), "drop 0");
        same(x -> x.removeTask(3), "drop 03");
        same(x -> x.addDependency(0, 2), "link 0>2");
        same(x -> x.addDependency(2, 1), "link 2>01");
        same(x -> x.addDependency(1, 0), "link 1>0");
        same(x -> x.removeDependency(1, 0), "unlink 1>0");
        same(x -> x.removeDependency(0, 1), "unlink 0>1");
        same(x -> x.setLimit(0, 20), "limit 0 20");
        same(x -> x.setLimit(2, 5), "limit 2 5");
        same(x -> x.setDuration(3, 9), "resize 3 9");
        same(x -> x.setDuration(0, 1), "resize 00 1");
        same(x -> x.setRelease(3, 30), "delay 3 30");
        same(x -> x.setRelease(0, 0), "delay 0 0");
        same(x -> x.setRelease(2, 1), "delay 02 01");
        same(x -> x.takeBaseline(), "mark");
    }

    private static void allOrNone() {
        TaskLeveller x = new TaskLeveller();
        Boundaries.equal("task, mark, delay", 3, Make.run(x, "task 1 0 1 0;mark;delay 0 30"));
        Boundaries.equal("the baseline start before the delay", 0, x.baselineStart(0));
        Boundaries.equal("delay, mark", 2, Make.run(x, "delay 0 20;mark"));
        Boundaries.equal("the baseline start behind the delay", 20, x.baselineStart(0));
        Boundaries.equal("drop, task", 2, Make.run(x, "drop 0;task 2 0 1 0"));
        Boundaries.equal("the duration of the one that is left", 2, x.duration(0));
        Boundaries.equal("task, drop", 2, Make.run(x, "task 3 0 1 0;drop 0"));
        Boundaries.equal("the duration of the one that is left", 3, x.duration(0));
        Boundaries.equal("drop, drop of one", "throws IllegalStateException", Make.run(x, "drop 0;drop 0"));
        Boundaries.equal("the tasks after it", 1, x.taskCount());
        Boundaries.equal("task behind a failing one", "throws IllegalStateException",
                Make.run(x, "drop 1;task 1 0 1 0"));
        Boundaries.equal("the tasks after it", 1, x.taskCount());
        Make.addTasks(x, 11);
        Boundaries.equal("drop, task when full", 2, Make.run(x, "drop 0;task 4 0 1 0"));
        Boundaries.equal("the last one", 4, x.duration(11));
        Boundaries.equal("task, drop when full", "throws IllegalStateException", Make.run(x, "task 5 0 1 0;drop 0"));
        Boundaries.equal("the last one", 4, x.duration(11));
        String much = "rk;drop 0;task 9 0 5 0;limit 0 5;mark;delay 0 9;drop 4";
        Twins.same(Boundaries.check, "a failing script takes effect:", y -> {
            Make.busy(y);
            Boundaries.equal("the failing script", "throws IllegalStateException", Make.run(y, much));
            Make.run(y, "drop 9");
            Make.type(y, "ma");
        }, Make::busy);
    }

    private static void wrongAt(int due, String script) {
        TaskLeveller x = Make.tasks(2);
        Boundaries.equal("\"" + script + "\"", "throws IllegalArgumentException", Make.run(x, script));
        Boundaries.equal("the error position of \"" + script + "\"", due, Check.outcome(x::errorPosition));
    }

    private static void errorPositions() {
        wrongAt(0, "");
        String[] scripts = {"task 1 0 1 10", "drop 10", "link 10>10", "unlink 10>10", "limit 0 10", "resize 10 1",
            "delay 10 10", "mark", "mark;task 1 0 1 10;drop 10;link 10>10",
            "unlink 1>0;limit 0 9;resize 1 1;delay 1 1;mark", TWELVE_MARKS};
        for (String script : scripts) {
            for (int place = 0; place <= script.length(); place++) {
                String before = script.substring(0, place);
                wrongAt(place, before + "?");
                wrongAt(place, before + (char) 126);
                if (!endsWell(before)) {
                    wrongAt(place, before);
                }
            }
            // Behind a whole command of these, only a semicolon can go on.
            wrongAt(script.length(), script + "0");
            wrongAt(script.length(), script + " ");
            wrongAt(script.length(), script + ">");
            wrongAt(Math.min(script.length() + 1, 60), script + ";");
            Boundaries.equal("the length allows a semicolon", true, script.length() < 60);
        }
        wrongAt(60, TWELVE_MARKS + ";");
        wrongAt(59, TWELVE_MARKS + "a");
        wrongAt(0, "?".repeat(60));
        wrongAt(5, "mark;" + "?".repeat(55));
        wrongAt(2, "lilink 1>0");
        wrongAt(2, "unmark");
        wrongAt(2, "talk");
        wrongAt(0, "add");
    }

    /** Whether the text ends with a whole command. */
    private static boolean endsWell(String text) {
        String last = text.substring(text.lastIndexOf(';') + 1);
        return last.matches("task \\d \\d \\d \\d+|drop \\d+|(un)?link \\d+>\\d+|limit \\d \\d+|resize \\d+ \\d"
                + "|delay \\d+ \\d+|mark");
    }

    private static void keptFailures() {
        TaskLeveller x = Make.tasks(2);
        Boundaries.equal("the failing script", "throws IllegalStateException", Make.run(x, "mark;mark;link 1>1"));
        x.save();
        x.removeTask(0);
        x.undo();
        x.restore();
        Make.run(x, "mark");
        Make.run(x, "?");
        x.renderTask(0);
        Boundaries.refuses("a refused call", Boundaries.ARGUMENT, () -> x.setLimit(0, 4));
        Boundaries.equal("the index is kept", 2, x.failedCommand());
        Boundaries.equal("the reason is kept", 'a', x.failureReason());
        Boundaries.equal("the index is kept when it was asked for", 2, x.failedCommand());
        Boundaries.equal("the first of two that fail", "throws IllegalStateException", Make.run(x, "drop 2;link 0>0"));
        Boundaries.equal("its index", 0, x.failedCommand());
        Boundaries.equal("its reason", 'i', x.failureReason());
    }

    private static void reason(char due, int count, String script) {
        TaskLeveller x = Make.tasks(count);
        Boundaries.equal(script, "throws IllegalStateException", Make.run(x, script));
        Boundaries.equal("the reason of " + script, due, Check.outcome(x::failureReason));
    }

    /** No command's method throws a NoSuchElementException, so no script can have the reason 'n'. */
    private static void reasons() {
        String[] noIndex = {"drop 2", "drop 99", "link 2>0", "link 0>2", "link 2>2", "unlink 2>0", "unlink 0>2",
            "resize 2 1", "resize 2 0", "delay 2 0", "delay 2 31"};
        for (String script : noIndex) {
            reason('i', 2, script);
        }
        String[] wrong = {"task 0 0 1 0", "task 1 3 1 0", "task 1 0 0 0", "task 1 0 6 0", "task 1 0 1 31", "link 0>0",
            "limit 3 10", "limit 0 4", "limit 0 21", "resize 1 0", "delay 1 31", "delay 1 99"};
        for (String script : wrong) {
            reason('a', 2, script);
        }
        reason('a', 12, "task 0 0 1 0");
        reason('s', 12, "task 1 0 1 0");
        reason('s', 11, "task 1 0 1 0;task 1 0 1 0");
        reason('u', 2, "link 0>1;link 1>0");
        reason('u', 3, "link 0>1;link 1>2;link 2>0");
    }
}
