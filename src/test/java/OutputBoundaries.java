/** The sentences of promises 47 to 49 that name a boundary: the output text. */
final class OutputBoundaries {
    private static final String LENGTH = "Returns the length of the output text.";

    private OutputBoundaries() {
    }

    static void hold(Boundaries sentences) {
        sentences.promise(47, "Replaces the output text by a description of a task: its index, \":\", its duration, "
                + "\"x\", its demand, \"r\", its resource, \"@\" and its levelled start, \"!\" if it is critical, and "
                + "\"<\" and the index of each task on which it depends directly, in ascending order, as in "
                + "\"3:4x2r0@7!<0<1\".", OutputBoundaries::descriptions);
        sentences.promise(47, LENGTH, OutputBoundaries::descriptionLengths);
        sentences.promise(47, "Throws `IndexOutOfBoundsException` if there is no such task",
                () -> Boundaries.noSuchTask((x, task) -> x.renderTask(task)));
        sentences.promise(48, "Replaces the output text by the usage of a resource on the days from 0 up to the day "
                + "before the levelled length, separated by commas; the text is empty if there are no tasks.",
                OutputBoundaries::usages);
        sentences.promise(48, LENGTH, OutputBoundaries::usageLengths);
        sentences.promise(48, "Throws `IllegalArgumentException` if there is no such resource",
                () -> Boundaries.noSuchResource((x, resource) -> x.renderUsage(resource)));
        sentences.promise(49, "Returns a character of the output text, which is empty initially.",
                OutputBoundaries::emptyAtFirst);
        sentences.promise(49, "Throws `IndexOutOfBoundsException` if there is no such index",
                OutputBoundaries::noSuchIndex);
    }

    private static void description(String due, TaskLeveller x, int task) {
        Boundaries.equal("the length of the text of task " + task, due.length(), x.renderTask(task));
        Boundaries.equal("the text of task " + task, due, Make.text(x));
    }

    private static void descriptions() {
        TaskLeveller x = new TaskLeveller();
        x.addTask(1, 0, 1, 0);
        description("0:1x1r0@0!", x, 0);
        x.addTask(9, 2, 5, 30);
        description("1:9x5r2@30!", x, 1);
        description("0:1x1r0@0", x, 0);
        x.setRelease(0, 9);
        description("0:1x1r0@9", x, 0);
        x.setRelease(0, 10);
        description("0:1x1r0@10", x, 0);
        x.setDuration(0, 9);
        x.setRelease(0, 29);
        description("0:9x1r0@29", x, 0);
        x.setRelease(0, 30);
        description("0:9x1r0@30!", x, 0);
        x.setLimit(1, 5);
        x.addTask(9, 1, 5, 30);
        x.addTask(9, 1, 5, 30);
        description("2:9x5r1@30!", x, 2);
        description("3:9x5r1@39!", x, 3);
        TaskLeveller all = Make.triangle(12);
        description("0:1x1r0@0!", all, 0);
        description("1:1x1r0@1!<0", all, 1);
        description("11:1x1r0@11!<0<1<2<3<4<5<6<7<8<9<10", all, 11);
        TaskLeveller down = Make.tasks(12);
        for (int needed = 11; needed > 8; needed--) {
            down.addDependency(0, needed);
        }
        description("0:1x1r0@1!<9<10<11", down, 0);
        down.addDependency(9, 10);
        description("0:1x1r0@2!<9<10<11", down, 0);
        description("11:1x1r0@0", down, 11);
        TaskLeveller chain = Make.chain(12, 9, 30);
        description("11:9x5r0@129!<10", chain, 11);
        chain.setDuration(0, 7);
        description("8:9x5r0@100!<7", chain, 8);
        chain.setDuration(0, 6);
        description("8:9x5r0@99!<7", chain, 8);
    }

    private static void descriptionLengths() {
        Boundaries.equal("the shortest without a mark", 9, shortened().renderTask(0));
        Boundaries.equal("the shortest of a critical one", 10, Make.tasks(1).renderTask(0));
        Boundaries.equal("with eleven dependencies", 35, Make.triangle(12).renderTask(11));
        TaskLeveller longest = new TaskLeveller();
        for (int task = 0; task < 12; task++) {
            longest.addTask(9, 2, 5, 30);
            for (int needed = 0; needed < task; needed++) {
                longest.addDependency(task, needed);
            }
        }
        Boundaries.equal("the longest", 36, longest.renderTask(11));
        Boundaries.equal("the last character of the longest", '0', longest.outputAt(35));
        Boundaries.equal("a shorter one behind it", 11, longest.renderTask(0));
        Boundaries.refuses("what the longest had behind that", Boundaries.INDEX, () -> longest.outputAt(11));
    }

    private static TaskLeveller shortened() {
        TaskLeveller x = Make.tasks(1);
        x.addTask(2, 1, 1, 0);
        return x;
    }

    private static void usage(String due, TaskLeveller x, int resource) {
        Boundaries.equal("the length of the text of resource " + resource, due.length(), x.renderUsage(resource));
        Boundaries.equal("the text of resource " + resource, due, Make.text(x));
    }

    private static void usages() {
        TaskLeveller x = new TaskLeveller();
        x.takeBaseline();
        for (int resource = 0; resource < 3; resource++) {
            usage("", x, resource);
        }
        x.addTask(1, 0, 1, 0);
        usage("1", x, 0);
        usage("0", x, 1);
        x.setRelease(0, 1);
        usage("0,1", x, 0);
        x.addTask(1, 2, 5, 3);
        usage("0,1,0,0", x, 0);
        usage("0,0,0,0", x, 1);
        usage("0,0,0,5", x, 2);
        x.removeTask(0);
        x.removeTask(0);
        usage("", x, 0);
        TaskLeveller full = Make.tasks(12);
        usage("10,2", full, 0);
        full.setLimit(0, 9);
        usage("9,3", full, 0);
        full.setLimit(0, 20);
        usage("12", full, 0);
        TaskLeveller levelled = Make.tasks(12);
        levelled.setLimit(0, 5);
        usage("5,5,2", levelled, 0);
        TaskLeveller chain = Make.chain(12, 9, 30);
        usage("0,".repeat(30) + "5,".repeat(107) + "5", chain, 0);
    }

    private static void usageLengths() {
        Boundaries.equal("without tasks", 0, new TaskLeveller().renderUsage(0));
        Boundaries.equal("of one day", 1, Make.tasks(1).renderUsage(0));
        Boundaries.equal("of one day with two digits", 2, tens(2).renderUsage(0));
        Boundaries.equal("of the most days", 275, Make.chain(12, 9, 30).renderUsage(0));
        Boundaries.equal("of many days with two digits", 30 * 2 + 54 * 3 - 1, tens(12).renderUsage(0));
        TaskLeveller x = Make.chain(12, 9, 30);
        x.renderUsage(0);
        Boundaries.equal("of the same once more", 275, x.renderUsage(0));
        Boundaries.equal("of another resource's", 275, x.renderUsage(1));
        Boundaries.equal("of one task behind it", 13, x.renderTask(1));
        Boundaries.refuses("what the longer one had behind that", Boundaries.INDEX, () -> x.outputAt(13));
    }

    /** Two tasks fill the resource for a day; twelve fill it for 54 days from day 30 on. */
    private static TaskLeveller tens(int count) {
        TaskLeveller x = new TaskLeveller();
        for (int task = 0; task < count; task++) {
            x.addTask(count == 2 ? 1 : 9, 0, 5, count == 2 ? 0 : 30);
        }
        return x;
    }

    private static void emptyAtFirst() {
        TaskLeveller x = new TaskLeveller();
        Boundaries.refuses("index 0 at first", Boundaries.INDEX, () -> x.outputAt(0));
        x.addTask(1, 0, 1, 0);
        x.isConsistent();
        Boundaries.refuses("index 0 with a task", Boundaries.INDEX, () -> x.outputAt(0));
        Boundaries.refuses("a text of no task", Boundaries.INDEX, () -> x.renderTask(1));
        Boundaries.refuses("index 0 after a refusal", Boundaries.INDEX, () -> x.outputAt(0));
        x.renderTask(0);
        Boundaries.equal("the first character", '0', x.outputAt(0));
        Boundaries.equal("the last character", '!', x.outputAt(9));
        x.removeTask(0);
        Boundaries.equal("when the task has gone", '0', x.outputAt(0));
        x.renderUsage(0);
        Boundaries.refuses("index 0 of an empty text again", Boundaries.INDEX, () -> x.outputAt(0));
    }

    private static void noSuchIndex() {
        for (int wrong : new int[] {-1, 0, 1}) {
            Boundaries.refuses("index " + wrong + " of an empty text", Boundaries.INDEX,
                    () -> new TaskLeveller().outputAt(wrong));
        }
        TaskLeveller x = Make.chain(12, 9, 30);
        int longest = x.renderUsage(0);
        Boundaries.accepts("the first index", () -> x.outputAt(0));
        Boundaries.accepts("the last index", () -> x.outputAt(longest - 1));
        Boundaries.refuses("the index behind", Boundaries.INDEX, () -> x.outputAt(longest));
        Boundaries.refuses("the index before", Boundaries.INDEX, () -> x.outputAt(-1));
        for (int wrong : Boundaries.FAR) {
            Object due = wrong > 0 && wrong < longest ? "accepted" : "throws IndexOutOfBoundsException";
            Object got = Check.outcome(() -> x.outputAt(wrong));
            Boundaries.equal("index " + wrong, due, got instanceof Character ? "accepted" : got);
        }
        int shorter = x.renderTask(0);
        Boundaries.accepts("the last index of a shorter text", () -> x.outputAt(shorter - 1));
        Boundaries.refuses("the index behind a shorter text", Boundaries.INDEX, () -> x.outputAt(shorter));
        Boundaries.refuses("the last index of the text before", Boundaries.INDEX, () -> x.outputAt(longest - 1));
        Boundaries.changesNothing(Boundaries.INDEX, y -> y.outputAt(-1));
        Boundaries.changesNothing(Boundaries.INDEX, y -> y.outputAt(300));
    }
}
