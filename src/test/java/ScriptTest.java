import java.util.NoSuchElementException;

/** Promises 50 to 54: the script buffer, scripts, and what is kept of wrong ones. */
public final class ScriptTest {
    private static final Class<IllegalArgumentException> ARGUMENT = IllegalArgumentException.class;
    private static final Class<IllegalStateException> STATE = IllegalStateException.class;
    private static final Class<NoSuchElementException> NOTHING = NoSuchElementException.class;

    private static final Check check = new Check();

    public static void main(String[] args) {
        type();
        commands();
        numbers();
        errors();
        fullBuffer();
        failures();
        keptOnes();
        marks();
        check.end();
    }

    private static Object run(TaskLeveller x, String script) {
        for (int index = 0; index < script.length(); index++) {
            x.type(script.charAt(index));
        }
        return Check.outcome(x::runScript);
    }

    private static void type() {
        check.promise(50, "type");
        TaskLeveller x = new TaskLeveller();
        char[] wrong = {0, 31, 127, 128, 255, 256 + 'm', 65535};
        for (char sign : wrong) {
            check.refuses("code " + (int) sign, ARGUMENT, () -> x.type(sign));
        }
        check.equal("code 32", 1, x.type(' '));
        check.equal("code 126", 2, x.type('~'));
        for (int length = 3; length <= 60; length++) {
            check.equal("length", length, x.type('a'));
        }
        check.refuses("a 61st", STATE, () -> x.type('a'));
        check.refuses("a wrong 61st", ARGUMENT, () -> x.type((char) 127));
        check.refuses("running it", ARGUMENT, x::runScript);
        check.equal("after a run", 1, x.type('m'));
        x.type('a');
        x.type('r');
        x.type('k');
        check.equal("the new text alone", 1, x.runScript());
        check.equal("after a good run", 1, x.type('m'));
    }

    private static void commands() {
        check.promise(51, "runScript");
        TaskLeveller x = new TaskLeveller();
        check.equal("task", 1, run(x, "task 7 2 4 29"));
        check.equal("duration", 7, x.duration(0));
        check.equal("resource", 2, x.resource(0));
        check.equal("demand", 4, x.demand(0));
        check.equal("release", 29, x.release(0));
        check.equal("two tasks", 2, run(x, "task 1 0 1 0;task 2 1 2 05"));
        check.equal("release with a 0 before", 5, x.release(2));
        check.equal("link", 1, run(x, "link 2>00"));
        check.equal("linked", true, x.dependsDirectly(2, 0));
        check.equal("not linked", false, x.dependsDirectly(0, 2));
        check.equal("link again", 1, run(x, "link 2>0"));
        check.equal("unlink", 1, run(x, "unlink 02>0"));
        check.equal("unlinked", false, x.dependsDirectly(2, 0));
        check.equal("unlink again", 1, run(x, "unlink 2>0"));
        check.equal("limit", 1, run(x, "limit 1 20"));
        check.equal("limit", 20, x.limit(1));
        check.equal("resize", 1, run(x, "resize 1 9"));
        check.equal("duration", 9, x.duration(1));
        check.equal("delay", 1, run(x, "delay 1 30"));
        check.equal("release", 30, x.release(1));
        check.equal("mark", 1, run(x, "mark"));
        check.equal("baseline", 30, x.baselineStart(1));
        check.equal("drop", 1, run(x, "drop 00"));
        check.equal("tasks", 2, x.taskCount());
        check.equal("the first", 9, x.duration(0));
        check.equal("all", 5, run(x, "mark;limit 0 5;drop 1;drop 0;mark"));
        check.equal("none left", 0, x.taskCount());
        check.equal("consistent", true, x.isConsistent());
    }

    private static void numbers() {
        TaskLeveller x = new TaskLeveller();
        for (int task = 0; task < 12; task++) {
            x.addTask(1, 0, 1, 0);
        }
        check.equal("two digits", 3, run(x, "link 11>10;resize 11 5;delay 10 12"));
        check.equal("linked", true, x.dependsDirectly(11, 10));
        check.equal("duration", 5, x.duration(11));
        check.equal("release", 12, x.release(10));
        check.equal("start", 13, x.earliestStart(11));
    }

    private static void wrongAt(int due, String script) {
        TaskLeveller x = new TaskLeveller();
        x.addTask(1, 0, 1, 0);
        check.equal("\"" + script + "\"", "throws IllegalArgumentException", run(x, script));
        check.equal("\"" + script + "\"", due, x.errorPosition());
        check.equal("tasks after \"" + script + "\"", 1, x.taskCount());
        check.refuses("failedCommand after \"" + script + "\"", NOTHING, x::failedCommand);
        check.equal("the buffer after \"" + script + "\"", 1, x.type('m'));
    }

    private static void errors() {
        check.promise(52, "errorPosition");
        check.refuses("at first", NOTHING, () -> new TaskLeveller().errorPosition());
        wrongAt(0, "");
        wrongAt(0, " mark");
        wrongAt(0, ";");
        wrongAt(0, "Mark");
        wrongAt(0, "x");
        wrongAt(1, "m");
        wrongAt(3, "mar");
        wrongAt(3, "mar;");
        wrongAt(4, "marks");
        wrongAt(4, "mark ");
        wrongAt(5, "mark;");
        wrongAt(5, "mark; mark");
        wrongAt(5, "mark;;mark");
        wrongAt(1, "t");
        wrongAt(4, "task");
        wrongAt(4, "task;");
        wrongAt(5, "task ");
        wrongAt(5, "task  1");
        wrongAt(6, "task 12 0 1 0");
        wrongAt(8, "task 1 02 1 0");
        wrongAt(10, "task 1 0 11 0");
        wrongAt(11, "task 1 0 1 ");
        wrongAt(11, "task 1 0 1 -1");
        wrongAt(10, "task 1 0 1");
        wrongAt(13, "task 1 0 1 300");
        wrongAt(1, "dxop 0");
        wrongAt(1, "d");
        wrongAt(2, "dr");
        wrongAt(2, "de");
        wrongAt(2, "dr0p 0");
        wrongAt(3, "delete");
        wrongAt(5, "drop ");
        wrongAt(5, "drop x");
        wrongAt(7, "drop 123");
        wrongAt(6, "drop 1 ");
        wrongAt(2, "li");
        wrongAt(2, "lie");
        wrongAt(3, "lin");
        wrongAt(3, "lim");
        wrongAt(3, "lint");
        wrongAt(3, "limk");
        wrongAt(5, "link ");
        wrongAt(6, "link 1");
        wrongAt(7, "link 12");
        wrongAt(7, "link 123>1");
        wrongAt(6, "link 1 > 2");
        wrongAt(7, "link 1>");
        wrongAt(7, "link 1>>");
        wrongAt(9, "link 1>123");
        wrongAt(8, "link 1>1>");
        wrongAt(2, "un");
        wrongAt(2, "unmark");
        wrongAt(7, "unlink x");
        wrongAt(9, "unlink 1>;mark");
        wrongAt(6, "limit ");
        wrongAt(7, "limit 12 5");
        wrongAt(8, "limit 1 ");
        wrongAt(10, "limit 1 123");
        wrongAt(7, "resize ;");
        wrongAt(8, "resize 0");
        wrongAt(9, "resize 0 x");
        wrongAt(9, "resize 123");
        wrongAt(10, "resize 0 12");
        wrongAt(11, "resize 10 12");
        wrongAt(7, "delay 0");
        wrongAt(8, "delay 0 ");
        wrongAt(10, "delay 0 123");
        wrongAt(8, "delay 12");
        wrongAt(8, "delay 123");
        wrongAt(14, "task 1 0 1 31;foo");
        wrongAt(13, "drop 9;drop 9d");
    }

    private static void fullBuffer() {
        check.promise(51, "runScript");
        TaskLeveller x = new TaskLeveller();
        String twelve = "mark;mark;mark;mark;mark;mark;mark;mark;mark;mark;mark;mark";
        check.equal("twelve commands", 12, run(x, twelve));
        check.equal("a semicolon too many", "throws IllegalArgumentException", run(x, twelve + ";"));
        check.equal("its position", 60, x.errorPosition());
        check.equal("60 characters", 11, run(x, "limit 0 20;" + twelve.substring(10)));
        check.equal("limit", 20, x.limit(0));
    }

    private static void failsAs(TaskLeveller x, int index, char reason, String script) {
        int tasks = x.taskCount();
        check.promise(51, "runScript");
        check.equal("\"" + script + "\"", "throws IllegalStateException", run(x, script));
        check.equal("tasks after \"" + script + "\"", tasks, x.taskCount());
        check.equal("baseline after \"" + script + "\"", false, x.hasBaseline());
        check.equal("limit after \"" + script + "\"", 10, x.limit(0));
        check.promise(53, "failedCommand");
        check.equal("\"" + script + "\"", index, x.failedCommand());
        check.promise(54, "failureReason");
        check.equal("\"" + script + "\"", reason, x.failureReason());
        check.equal("the buffer", 1, x.type('m'));
        check.refuses("the buffer", ARGUMENT, x::runScript);
    }

    private static void failures() {
        TaskLeveller x = new TaskLeveller();
        check.promise(53, "failedCommand");
        check.refuses("at first", NOTHING, x::failedCommand);
        check.promise(54, "failureReason");
        check.refuses("at first", NOTHING, x::failureReason);
        failsAs(x, 0, 'i', "drop 0");
        failsAs(x, 2, 'i', "task 1 0 1 0;drop 0;drop 0");
        failsAs(x, 0, 'a', "task 0 0 1 0");
        failsAs(x, 0, 'a', "task 1 3 1 0");
        failsAs(x, 0, 'a', "task 1 0 6 0");
        failsAs(x, 1, 'a', "task 1 0 1 0;task 1 0 1 31");
        failsAs(x, 0, 'a', "limit 3 10");
        failsAs(x, 2, 'a', "limit 0 5;mark;limit 0 21");
        failsAs(x, 1, 'a', "limit 0 20;limit 0 04");
        failsAs(x, 0, 'i', "resize 0 0");
        failsAs(x, 0, 'i', "delay 0 31");
        failsAs(x, 0, 'i', "link 0>0");
        failsAs(x, 0, 'i', "unlink 0>0");
        x.addTask(1, 0, 1, 0);
        x.addTask(2, 0, 1, 0);
        failsAs(x, 0, 'a', "resize 0 0");
        failsAs(x, 0, 'a', "delay 0 31");
        failsAs(x, 1, 'a', "link 0>1;link 0>0");
        check.equal("no link", false, x.dependsDirectly(0, 1));
        failsAs(x, 1, 'u', "link 0>1;link 1>0");
        failsAs(x, 0, 'i', "link 0>2");
        failsAs(x, 2, 'i', "mark;unlink 0>0;unlink 2>0");
        failsAs(x, 2, 'i', "resize 0 9;delay 0 9;drop 12");
        check.equal("duration", 1, x.duration(0));
        check.equal("release", 0, x.release(0));
        check.equal("length", 2, x.levelledLength());
        for (int task = 2; task < 11; task++) {
            x.addTask(1, 0, 1, 0);
        }
        failsAs(x, 1, 's', "task 1 0 1 0;task 1 0 1 0");
        failsAs(x, 1, 'a', "task 1 0 1 0;task 0 0 1 0");
        failsAs(x, 0, 'i', "drop 99");
    }

    private static void keptOnes() {
        check.about("promises 52 to 54 (the latest one counts)");
        TaskLeveller x = new TaskLeveller();
        run(x, "task 0 0 1 0");
        run(x, "mark?");
        check.equal("failedCommand", 0, x.failedCommand());
        check.equal("failureReason", 'a', x.failureReason());
        check.equal("errorPosition", 4, x.errorPosition());
        run(x, "task 1 0 1 0");
        check.equal("failureReason after a good script", 'a', x.failureReason());
        check.equal("errorPosition after a good script", 4, x.errorPosition());
        run(x, "mark;drop 5");
        check.equal("the later failure", 1, x.failedCommand());
        check.equal("the later reason", 'i', x.failureReason());
        check.equal("errorPosition after a failure", 4, x.errorPosition());
        run(x, "drop");
        check.equal("the later error", 4, x.errorPosition());
        run(x, "");
        check.equal("the latest error", 0, x.errorPosition());
        x.save();
        x.restore();
        check.equal("after a restore", 0, x.errorPosition());
        check.equal("after a restore", 1, x.failedCommand());
        x.addTask(1, 0, 1, 0);
        x.type('x');
        x.undo();
        check.equal("after undo", 'i', x.failureReason());
        check.equal("the buffer after undo", 2, x.type('x'));
    }

    /** A mark in a script takes the starts as they are at that command. */
    private static void marks() {
        check.promise(51, "runScript");
        TaskLeveller x = new TaskLeveller();
        check.equal("mark before a delay", 3, run(x, "task 2 0 5 4;mark;delay 0 9"));
        check.equal("baselineStart", 4, x.baselineStart(0));
        check.equal("drift", 5, x.drift(0));
        check.equal("levelledStart", 9, x.levelledStart(0));
        check.equal("a failing one", "throws IllegalStateException", run(x, "delay 0 20;mark;drop 1"));
        check.equal("levelledStart", 9, x.levelledStart(0));
        check.equal("baselineStart", 4, x.baselineStart(0));
    }
}
