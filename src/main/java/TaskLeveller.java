import java.util.NoSuchElementException;

/** A scheduler of tasks with dependencies, durations and resource demands. */
public final class TaskLeveller {
    private static final int TASKS = 12;
    private static final int RESOURCES = 3;
    private static final int UNDOS = 8;
    private static final int SCRIPT_LENGTH = 60;
    private static final int MOST_NUMBERS = 4;
    private static final int LONGEST_DURATION = 9;
    private static final int GREATEST_DEMAND = 5;
    private static final int LAST_RELEASE = 30;
    private static final int FIRST_LIMIT = 10;
    private static final int LOWEST_LIMIT = 5;
    private static final int HIGHEST_LIMIT = 20;

    // Behind the last release day and every finish so far there is always room for
    // a task, so no day at or after this one is ever worked on.
    private static final int DAYS = LAST_RELEASE + TASKS * LONGEST_DURATION;

    // The longest text has two digits and a comma for each day.
    private static final int OUTPUT_LENGTH = 3 * DAYS;

    private static final int NONE = -1;

    private static final char FINE = '.';
    private static final char BAD_INDEX = 'i';
    private static final char BAD_ARGUMENT = 'a';
    private static final char BAD_STATE = 's';
    private static final char UNSUPPORTED = 'u';

    private static final Command[] COMMANDS = Command.values();

    private final Project project = new Project();
    private final Project trial = new Project();
    private final Project snapshot = new Project();
    private final History history = new History();
    private final Plan plan = new Plan();
    private final Script script = new Script();
    private final Output output = new Output();
    private final int[] keys = new int[TASKS];
    private boolean planFits;
    private boolean hasSnapshot;
    private int scriptError = NONE;
    private int failedIndex = NONE;
    private char failedReason = FINE;

    public TaskLeveller() {
    }

    public int addTask(int duration, int resource, int demand, int release)
            throws IllegalArgumentException, IllegalStateException {
        refuse(project.faultOfAdding(duration, resource, demand, release));
        beginChange();
        return project.append(duration, resource, demand, release);
    }

    public int removeTask(int task) throws IndexOutOfBoundsException {
        refuse(project.faultOfTask(task));
        beginChange();
        project.drop(task);
        return project.count;
    }

    public boolean addDependency(int task, int needed)
            throws IndexOutOfBoundsException, IllegalArgumentException, UnsupportedOperationException {
        refuse(project.faultOfLinking(task, needed));
        beginChange();
        boolean isNew = !project.isLinked(task, needed);
        project.link(task, needed);
        return isNew;
    }

    public boolean removeDependency(int task, int needed) throws IndexOutOfBoundsException {
        refuse(project.faultOfPair(task, needed));
        beginChange();
        boolean wasThere = project.isLinked(task, needed);
        project.unlink(task, needed);
        return wasThere;
    }

    public int setDuration(int task, int duration) throws IndexOutOfBoundsException, IllegalArgumentException {
        refuse(project.faultOfDuration(task, duration));
        beginChange();
        int previous = at(project.durations, task);
        put(project.durations, task, duration);
        return previous;
    }

    public int setRelease(int task, int release) throws IndexOutOfBoundsException, IllegalArgumentException {
        refuse(project.faultOfRelease(task, release));
        beginChange();
        int previous = at(project.releases, task);
        put(project.releases, task, release);
        return previous;
    }

    public int setLimit(int resource, int limit) throws IllegalArgumentException {
        refuse(project.faultOfLimit(resource, limit));
        beginChange();
        int previous = at(project.limits, resource);
        put(project.limits, resource, limit);
        return previous;
    }

    public int takeBaseline() {
        beginChange();
        Plan now = currentPlan();
        project.takeStarts(now.levelled);
        return now.levelledEnd;
    }

    public int taskCount() {
        return project.count;
    }

    public int duration(int task) throws IndexOutOfBoundsException {
        requireTask(task);
        return at(project.durations, task);
    }

    public int resource(int task) throws IndexOutOfBoundsException {
        requireTask(task);
        return at(project.resources, task);
    }

    public int demand(int task) throws IndexOutOfBoundsException {
        requireTask(task);
        return at(project.demands, task);
    }

    public int release(int task) throws IndexOutOfBoundsException {
        requireTask(task);
        return at(project.releases, task);
    }

    public int limit(int resource) throws IllegalArgumentException {
        requireResource(resource);
        return at(project.limits, resource);
    }

    public boolean dependsDirectly(int task, int needed) throws IndexOutOfBoundsException {
        requireTask(task);
        requireTask(needed);
        return project.isLinked(task, needed);
    }

    public boolean depends(int task, int needed) throws IndexOutOfBoundsException {
        requireTask(task);
        requireTask(needed);
        return project.reaches(task, needed);
    }

    public boolean dependsByClosure(int task, int needed) throws IndexOutOfBoundsException {
        requireTask(task);
        requireTask(needed);
        return hasBit(at(currentPlan().closure, task), needed);
    }

    public int neededCount(int task) throws IndexOutOfBoundsException {
        requireTask(task);
        return Integer.bitCount(at(project.needs, task));
    }

    public int dependentCount(int task) throws IndexOutOfBoundsException {
        requireTask(task);
        int dependents = 0;
        for (int other = 0; other < project.count; other++) {
            if (project.isLinked(other, task)) {
                dependents++;
            }
        }
        return dependents;
    }

    public int taskInOrder(int position) throws NoSuchElementException {
        if (!isWithin(position, 0, project.count - 1)) {
            throw new NoSuchElementException("no such position");
        }
        return at(currentPlan().order, position);
    }

    public int earliestStart(int task) throws IndexOutOfBoundsException {
        requireTask(task);
        return at(currentPlan().earliest, task);
    }

    public int earliestStartByRounds(int task) throws IndexOutOfBoundsException {
        requireTask(task);
        return at(currentPlan().improved, task);
    }

    public int latestStart(int task) throws IndexOutOfBoundsException {
        requireTask(task);
        return at(currentPlan().latest, task);
    }

    public int slack(int task) throws IndexOutOfBoundsException {
        requireTask(task);
        return currentPlan().slackOf(task);
    }

    public boolean isCritical(int task) throws IndexOutOfBoundsException {
        requireTask(task);
        return currentPlan().slackOf(task) == 0;
    }

    public int projectLength() {
        return currentPlan().end;
    }

    public int criticalCount() {
        Plan now = currentPlan();
        int critical = 0;
        for (int task = 0; task < project.count; task++) {
            if (now.slackOf(task) == 0) {
                critical++;
            }
        }
        return critical;
    }

    public int lastTask() throws NoSuchElementException {
        Plan now = currentPlan();
        for (int task = 0; task < project.count; task++) {
            if (at(now.earliest, task) + at(project.durations, task) == now.end) {
                return task;
            }
        }
        throw new NoSuchElementException("there are no tasks");
    }

    public int levelledStart(int task) throws IndexOutOfBoundsException {
        requireTask(task);
        return at(currentPlan().levelled, task);
    }

    public int levelledLength() {
        return currentPlan().levelledEnd;
    }

    public int usage(int resource, int day) throws IllegalArgumentException {
        requireResource(resource);
        requireDay(day);
        return currentPlan().usedOn(resource, day);
    }

    public int usageByTasks(int resource, int day) throws IllegalArgumentException {
        requireResource(resource);
        requireDay(day);
        int units = 0;
        for (int task = 0; task < project.count; task++) {
            if (at(project.resources, task) == resource && isWorkedOn(task, day)) {
                units += at(project.demands, task);
            }
        }
        return units;
    }

    public int peakUsage(int resource) throws IllegalArgumentException {
        requireResource(resource);
        Plan now = currentPlan();
        int peak = 0;
        for (int day = 0; day < DAYS; day++) {
            peak = Math.max(peak, now.usedOn(resource, day));
        }
        return peak;
    }

    public int tasksOn(int day) throws IllegalArgumentException {
        requireDay(day);
        int tasks = 0;
        for (int task = 0; task < project.count; task++) {
            if (isWorkedOn(task, day)) {
                tasks++;
            }
        }
        return tasks;
    }

    public int workload(int resource) throws IllegalArgumentException {
        requireResource(resource);
        return project.workOf(resource);
    }

    public int workloadByDays(int resource) throws IllegalArgumentException {
        requireResource(resource);
        return currentPlan().workOnAllDays(resource);
    }

    public boolean hasBaseline() {
        return project.hasStarts;
    }

    public int baselineStart(int task) throws IndexOutOfBoundsException, NoSuchElementException {
        requireTask(task);
        requireBaselineStart(task);
        return at(project.starts, task);
    }

    public int drift(int task) throws IndexOutOfBoundsException, NoSuchElementException {
        requireTask(task);
        requireBaselineStart(task);
        return driftOf(task);
    }

    public int totalDrift() throws NoSuchElementException {
        if (!project.hasStarts) {
            throw new NoSuchElementException("there is no baseline");
        }
        int total = 0;
        for (int task = 0; task < project.count; task++) {
            if (project.hasStart(task)) {
                total += Math.abs(driftOf(task));
            }
        }
        return total;
    }

    public int taskBySlack(int rank) throws NoSuchElementException {
        Plan now = currentPlan();
        for (int task = 0; task < project.count; task++) {
            put(keys, task, sortingKey(now.slackOf(task), at(project.durations, task)));
        }
        return taskAtRank(rank);
    }

    public int taskByStart(int rank) throws NoSuchElementException {
        Plan now = currentPlan();
        for (int task = 0; task < project.count; task++) {
            put(keys, task, sortingKey(at(now.levelled, task), at(project.demands, task)));
        }
        return taskAtRank(rank);
    }

    public double meanSlack() throws ArithmeticException {
        int tasks = project.count;
        if (tasks == 0) {
            throw new ArithmeticException("there are no tasks");
        }
        Plan now = currentPlan();
        int sum = 0;
        for (int task = 0; task < tasks; task++) {
            sum += now.slackOf(task);
        }
        return (double) sum / (double) tasks;
    }

    public float utilization(int resource) throws IllegalArgumentException, ArithmeticException {
        requireResource(resource);
        int capacity = at(project.limits, resource) * currentPlan().levelledEnd;
        // Every limit and every duration is positive, so only a project without tasks comes to 0.
        if (capacity == 0) {
            throw new ArithmeticException("there are no tasks");
        }
        return (float) project.workOf(resource) / (float) capacity;
    }

    public boolean isConsistent() {
        return startsAgree() && dependenciesAgree() && workloadsAgree();
    }

    public int renderTask(int task) throws IndexOutOfBoundsException {
        requireTask(task);
        Plan now = currentPlan();
        output.clear();
        output.writeNumber(task);
        output.write(':');
        output.writeNumber(at(project.durations, task));
        output.write('x');
        output.writeNumber(at(project.demands, task));
        output.write('r');
        output.writeNumber(at(project.resources, task));
        output.write('@');
        output.writeNumber(at(now.levelled, task));
        if (now.slackOf(task) == 0) {
            output.write('!');
        }
        for (int needed = 0; needed < project.count; needed++) {
            if (project.isLinked(task, needed)) {
                output.write('<');
                output.writeNumber(needed);
            }
        }
        return output.length;
    }

    public int renderUsage(int resource) throws IllegalArgumentException {
        requireResource(resource);
        Plan now = currentPlan();
        output.clear();
        for (int day = 0; day < now.levelledEnd; day++) {
            if (day > 0) {
                output.write(',');
            }
            output.writeNumber(now.usedOn(resource, day));
        }
        return output.length;
    }

    public char outputAt(int index) throws IndexOutOfBoundsException {
        if (!isWithin(index, 0, output.length - 1)) {
            throw new IndexOutOfBoundsException("no such character");
        }
        return charAt(output.signs, index);
    }

    public int type(char character) throws IllegalArgumentException, IllegalStateException {
        if (!isWithin(character, 32, 126)) {
            throw new IllegalArgumentException("not a character of a script");
        }
        if (script.length >= SCRIPT_LENGTH) {
            throw new IllegalStateException("the script buffer is full");
        }
        script.append(character);
        return script.length;
    }

    public int runScript() throws IllegalArgumentException, IllegalStateException {
        boolean hasForm = script.read();
        script.clear();
        if (!hasForm) {
            scriptError = script.position;
            throw new IllegalArgumentException("the script does not have the required form");
        }
        trial.copyFrom(project);
        for (int index = 0; index < script.commandCount; index++) {
            char fault = runCommand(index);
            if (fault != FINE) {
                failedIndex = index;
                failedReason = fault;
                throw new IllegalStateException("a command failed");
            }
        }
        beginChange();
        project.copyFrom(trial);
        return script.commandCount;
    }

    public int errorPosition() throws NoSuchElementException {
        if (scriptError == NONE) {
            throw new NoSuchElementException("no script was without the required form");
        }
        return scriptError;
    }

    public int failedCommand() throws NoSuchElementException {
        requireFailure();
        return failedIndex;
    }

    public char failureReason() throws NoSuchElementException {
        requireFailure();
        return failedReason;
    }

    public int undo() throws IllegalStateException {
        if (history.count == 0) {
            throw new IllegalStateException("there is nothing to undo");
        }
        history.takeInto(project);
        planFits = false;
        return history.count;
    }

    public int save() {
        snapshot.copyFrom(project);
        hasSnapshot = true;
        return project.count;
    }

    public int restore() throws IllegalStateException {
        if (!hasSnapshot) {
            throw new IllegalStateException("there is no snapshot");
        }
        project.copyFrom(snapshot);
        planFits = false;
        history.clear();
        return project.count;
    }

    private void beginChange() {
        history.keep(project);
        planFits = false;
    }

    private Plan currentPlan() {
        if (!planFits) {
            plan.make(project);
            planFits = true;
        }
        return plan;
    }

    /** Runs a command of the script on the trial project and answers the reason why it failed, or FINE. */
    private char runCommand(int index) {
        Command command = script.commandAt(index);
        if (command == null) {
            return FINE;
        }
        int first = script.numberAt(index, 0);
        int second = script.numberAt(index, 1);
        char fault;
        switch (command) {
            case TASK:
                return runAdding(first, second, script.numberAt(index, 2), script.numberAt(index, 3));
            case DROP:
                fault = trial.faultOfTask(first);
                if (fault == FINE) {
                    trial.drop(first);
                }
                return fault;
            case LINK:
                fault = trial.faultOfLinking(first, second);
                if (fault == FINE) {
                    trial.link(first, second);
                }
                return fault;
            case UNLINK:
                fault = trial.faultOfPair(first, second);
                if (fault == FINE) {
                    trial.unlink(first, second);
                }
                return fault;
            case LIMIT:
                return runSetting(trial.faultOfLimit(first, second), trial.limits, first, second);
            case RESIZE:
                return runSetting(trial.faultOfDuration(first, second), trial.durations, first, second);
            case DELAY:
                return runSetting(trial.faultOfRelease(first, second), trial.releases, first, second);
            default:
                markTrial();
                return FINE;
        }
    }

    private char runAdding(int duration, int resource, int demand, int release) {
        char fault = trial.faultOfAdding(duration, resource, demand, release);
        if (fault == FINE) {
            trial.append(duration, resource, demand, release);
        }
        return fault;
    }

    private static char runSetting(char fault, int[] row, int index, int value) {
        if (fault == FINE) {
            put(row, index, value);
        }
        return fault;
    }

    private void markTrial() {
        plan.make(trial);
        planFits = false;
        trial.takeStarts(plan.levelled);
    }

    private boolean isWorkedOn(int task, int day) {
        int start = at(currentPlan().levelled, task);
        return day >= start && day < start + at(project.durations, task);
    }

    private int driftOf(int task) {
        return at(currentPlan().levelled, task) - at(project.starts, task);
    }

    /** A key that sorts by the first number upwards, then by the second downwards. */
    private static int sortingKey(int ascending, int descending) {
        // Durations and demands have one digit, so they never outweigh the first number.
        return 10 * ascending - descending;
    }

    private int taskAtRank(int rank) {
        for (int task = 0; task < project.count; task++) {
            if (countBefore(task) == rank) {
                return task;
            }
        }
        throw new NoSuchElementException("no such rank");
    }

    private int countBefore(int task) {
        int key = at(keys, task);
        int before = 0;
        for (int other = 0; other < project.count; other++) {
            int otherKey = at(keys, other);
            if (otherKey < key || (otherKey == key && other < task)) {
                before++;
            }
        }
        return before;
    }

    private boolean startsAgree() {
        Plan now = currentPlan();
        for (int task = 0; task < project.count; task++) {
            int earliest = at(now.earliest, task);
            if (earliest != at(now.improved, task) || at(now.levelled, task) < earliest) {
                return false;
            }
        }
        return true;
    }

    private boolean dependenciesAgree() {
        Plan now = currentPlan();
        for (int task = 0; task < project.count; task++) {
            int closure = at(now.closure, task);
            for (int needed = 0; needed < project.count; needed++) {
                if (hasBit(closure, needed) != project.reaches(task, needed)) {
                    return false;
                }
            }
        }
        return true;
    }

    private boolean workloadsAgree() {
        Plan now = currentPlan();
        for (int resource = 0; resource < RESOURCES; resource++) {
            if (project.workOf(resource) != now.workOnAllDays(resource)) {
                return false;
            }
        }
        return true;
    }

    private void requireTask(int task) {
        refuse(project.faultOfTask(task));
    }

    private static void requireResource(int resource) {
        if (!isWithin(resource, 0, RESOURCES - 1)) {
            throw new IllegalArgumentException("no such resource");
        }
    }

    private static void requireDay(int day) {
        if (day < 0) {
            throw new IllegalArgumentException("the day is negative");
        }
    }

    private void requireBaselineStart(int task) {
        if (!project.hasStart(task)) {
            throw new NoSuchElementException("the task has no baseline start");
        }
    }

    private void requireFailure() {
        if (failedIndex == NONE) {
            throw new NoSuchElementException("no command of a script failed");
        }
    }

    private static void refuse(char fault) {
        if (fault == BAD_INDEX) {
            throw new IndexOutOfBoundsException("no such task");
        }
        if (fault == BAD_ARGUMENT) {
            throw new IllegalArgumentException("an argument is out of its range");
        }
        if (fault == BAD_STATE) {
            throw new IllegalStateException("there is no room for another task");
        }
        if (fault == UNSUPPORTED) {
            throw new UnsupportedOperationException("a task would depend on itself");
        }
    }

    private static boolean isWithin(int value, int lowest, int highest) {
        return value >= lowest && value <= highest;
    }

    private static boolean hasBit(int bits, int index) {
        return ((bits >> index) & 1) == 1;
    }

    private static int at(int[] row, int index) {
        return index >= 0 && index < row.length ? row[index] : 0;
    }

    private static void put(int[] row, int index, int value) {
        if (index >= 0 && index < row.length) {
            row[index] = value;
        }
    }

    private static char charAt(char[] signs, int index) {
        return index >= 0 && index < signs.length ? signs[index] : ' ';
    }

    private static void copyRow(int[] from, int[] to) {
        for (int index = 0; index < from.length && index < to.length; index++) {
            to[index] = from[index];
        }
    }

    private static void fillRow(int[] row, int value) {
        for (int index = 0; index < row.length; index++) {
            row[index] = value;
        }
    }

    private static void closeGap(int[] row, int gap) {
        for (int index = Math.max(gap, 0); index + 1 < row.length; index++) {
            row[index] = row[index + 1];
        }
    }

    /** The commands of scripts; in a form '#' stands for a digit and '%' for one or two. */
    private enum Command {
        TASK("task # # # %"),
        DROP("drop %"),
        LINK("link %>%"),
        UNLINK("unlink %>%"),
        LIMIT("limit # %"),
        RESIZE("resize % #"),
        DELAY("delay % %"),
        MARK("mark");

        private final String form;

        Command(String form) {
            this.form = form;
        }
    }

    /** All that undo and the snapshot cover. */
    private static final class Project {
        private final int[] durations = new int[TASKS];
        private final int[] resources = new int[TASKS];
        private final int[] demands = new int[TASKS];
        private final int[] releases = new int[TASKS];
        private final int[] needs = new int[TASKS];
        private final int[] starts = new int[TASKS];
        private final int[] limits = new int[RESOURCES];
        private int count;
        private boolean hasStarts;

        private Project() {
            fillRow(limits, FIRST_LIMIT);
        }

        private void copyFrom(Project other) {
            copyRow(other.durations, durations);
            copyRow(other.resources, resources);
            copyRow(other.demands, demands);
            copyRow(other.releases, releases);
            copyRow(other.needs, needs);
            copyRow(other.starts, starts);
            copyRow(other.limits, limits);
            count = other.count;
            hasStarts = other.hasStarts;
        }

        private char faultOfTask(int task) {
            return isWithin(task, 0, count - 1) ? FINE : BAD_INDEX;
        }

        private char faultOfPair(int task, int needed) {
            return faultOfTask(task) == FINE ? faultOfTask(needed) : BAD_INDEX;
        }

        private char faultOfAdding(int duration, int resource, int demand, int release) {
            boolean areArgumentsFine = isWithin(duration, 1, LONGEST_DURATION)
                    && isWithin(resource, 0, RESOURCES - 1)
                    && isWithin(demand, 1, GREATEST_DEMAND)
                    && isWithin(release, 0, LAST_RELEASE);
            if (!areArgumentsFine) {
                return BAD_ARGUMENT;
            }
            return count < TASKS ? FINE : BAD_STATE;
        }

        private char faultOfLinking(int task, int needed) {
            if (faultOfPair(task, needed) != FINE) {
                return BAD_INDEX;
            }
            if (task == needed) {
                return BAD_ARGUMENT;
            }
            return reaches(needed, task) ? UNSUPPORTED : FINE;
        }

        private char faultOfDuration(int task, int duration) {
            if (faultOfTask(task) != FINE) {
                return BAD_INDEX;
            }
            return isWithin(duration, 1, LONGEST_DURATION) ? FINE : BAD_ARGUMENT;
        }

        private char faultOfRelease(int task, int release) {
            if (faultOfTask(task) != FINE) {
                return BAD_INDEX;
            }
            return isWithin(release, 0, LAST_RELEASE) ? FINE : BAD_ARGUMENT;
        }

        private char faultOfLimit(int resource, int limit) {
            boolean areArgumentsFine = isWithin(resource, 0, RESOURCES - 1)
                    && isWithin(limit, LOWEST_LIMIT, HIGHEST_LIMIT);
            return areArgumentsFine ? FINE : BAD_ARGUMENT;
        }

        private int append(int duration, int resource, int demand, int release) {
            int task = count;
            put(durations, task, duration);
            put(resources, task, resource);
            put(demands, task, demand);
            put(releases, task, release);
            put(needs, task, 0);
            put(starts, task, NONE);
            count = task + 1;
            return task;
        }

        private void drop(int task) {
            closeGap(durations, task);
            closeGap(resources, task);
            closeGap(demands, task);
            closeGap(releases, task);
            closeGap(needs, task);
            closeGap(starts, task);
            count--;
            int lowerBits = (1 << task) - 1;
            for (int other = 0; other < count; other++) {
                int bits = at(needs, other);
                put(needs, other, (bits & lowerBits) | ((bits >> 1) & ~lowerBits));
            }
        }

        private void link(int task, int needed) {
            put(needs, task, at(needs, task) | (1 << needed));
        }

        private void unlink(int task, int needed) {
            put(needs, task, at(needs, task) & ~(1 << needed));
        }

        private boolean isLinked(int task, int needed) {
            return hasBit(at(needs, task), needed);
        }

        private boolean reaches(int task, int needed) {
            return hasBit(search(needs, task, 0, 0), needed);
        }

        /** Searches depth first; answers the tasks seen before and those found from this one. */
        private static int search(int[] needs, int task, int seenBefore, int depth) {
            int seen = seenBefore;
            if (depth > TASKS) {
                return seen;
            }
            int direct = at(needs, task);
            for (int next = 0; next < TASKS; next++) {
                if (hasBit(direct, next) && !hasBit(seen, next)) {
                    seen = search(needs, next, seen | (1 << next), depth + 1);
                }
            }
            return seen;
        }

        private boolean isReady(int task, int placed) {
            return !hasBit(placed, task) && (at(needs, task) & ~placed) == 0;
        }

        private void takeStarts(int[] levelled) {
            copyRow(levelled, starts);
            hasStarts = true;
        }

        private boolean hasStart(int task) {
            return hasStarts && at(starts, task) != NONE;
        }

        private int workOf(int resource) {
            int work = 0;
            for (int task = 0; task < count; task++) {
                if (at(resources, task) == resource) {
                    work += at(durations, task) * at(demands, task);
                }
            }
            return work;
        }
    }

    /** What follows from a project: its order, its closure, and its starts in every reckoning. */
    private static final class Plan {
        private final int[] order = new int[TASKS];
        private final int[] closure = new int[TASKS];
        private final int[] earliest = new int[TASKS];
        private final int[] improved = new int[TASKS];
        private final int[] latest = new int[TASKS];
        private final int[] levelled = new int[TASKS];
        private final int[] used = new int[RESOURCES * DAYS];
        private int end;
        private int levelledEnd;

        private void make(Project project) {
            findOrder(project);
            findClosure(project);
            findEarliest(project);
            findImproved(project);
            findLatest(project);
            findLevelled(project);
        }

        private int slackOf(int task) {
            return at(latest, task) - at(earliest, task);
        }

        private int usedOn(int resource, int day) {
            return day < DAYS ? at(used, resource * DAYS + day) : 0;
        }

        private int workOnAllDays(int resource) {
            int work = 0;
            for (int day = 0; day < DAYS; day++) {
                work += usedOn(resource, day);
            }
            return work;
        }

        private void findOrder(Project project) {
            int placed = 0;
            for (int position = 0; position < project.count; position++) {
                int next = 0;
                while (next < project.count && !project.isReady(next, placed)) {
                    next++;
                }
                put(order, position, next);
                placed |= 1 << next;
            }
        }

        private void findClosure(Project project) {
            copyRow(project.needs, closure);
            for (int via = 0; via < project.count; via++) {
                for (int task = 0; task < project.count; task++) {
                    if (hasBit(at(closure, task), via)) {
                        put(closure, task, at(closure, task) | at(closure, via));
                    }
                }
            }
        }

        private void findEarliest(Project project) {
            fillRow(earliest, NONE);
            end = 0;
            for (int task = 0; task < project.count; task++) {
                int start = earliestOf(project, earliest, task, 0);
                end = Math.max(end, start + at(project.durations, task));
            }
        }

        private static int earliestOf(Project project, int[] known, int task, int depth) {
            int start = at(known, task);
            if (start != NONE || depth > TASKS) {
                return start;
            }
            start = at(project.releases, task);
            int direct = at(project.needs, task);
            for (int needed = 0; needed < project.count; needed++) {
                if (hasBit(direct, needed)) {
                    int finish = earliestOf(project, known, needed, depth + 1) + at(project.durations, needed);
                    start = Math.max(start, finish);
                }
            }
            put(known, task, start);
            return start;
        }

        private void findImproved(Project project) {
            copyRow(project.releases, improved);
            boolean hasChanged = true;
            for (int round = 0; hasChanged && round < TASKS; round++) {
                hasChanged = improve(project);
            }
        }

        private boolean improve(Project project) {
            boolean hasChanged = false;
            for (int task = 0; task < project.count; task++) {
                int soonest = soonestStart(project, task, improved);
                if (soonest > at(improved, task)) {
                    put(improved, task, soonest);
                    hasChanged = true;
                }
            }
            return hasChanged;
        }

        /** The lowest day that the release and the finishes of the needed tasks allow, by the given starts. */
        private static int soonestStart(Project project, int task, int[] starts) {
            int soonest = at(project.releases, task);
            int direct = at(project.needs, task);
            for (int needed = 0; needed < project.count; needed++) {
                if (hasBit(direct, needed)) {
                    soonest = Math.max(soonest, at(starts, needed) + at(project.durations, needed));
                }
            }
            return soonest;
        }

        private void findLatest(Project project) {
            for (int position = project.count - 1; position >= 0; position--) {
                int task = at(order, position);
                int finish = end;
                for (int other = 0; other < project.count; other++) {
                    if (project.isLinked(other, task)) {
                        finish = Math.min(finish, at(latest, other));
                    }
                }
                put(latest, task, finish - at(project.durations, task));
            }
        }

        private void findLevelled(Project project) {
            fillRow(used, 0);
            levelledEnd = 0;
            int placed = 0;
            for (int round = 0; round < project.count; round++) {
                int task = mostUrgent(project, placed);
                place(project, task, lowestFit(project, task));
                placed |= 1 << task;
            }
        }

        private int mostUrgent(Project project, int placed) {
            int urgent = NONE;
            for (int task = 0; task < project.count; task++) {
                boolean isReady = project.isReady(task, placed);
                if (isReady && (urgent == NONE || at(latest, task) < at(latest, urgent))) {
                    urgent = task;
                }
            }
            return urgent;
        }

        private int lowestFit(Project project, int task) {
            int day = soonestStart(project, task, levelled);
            while (day < DAYS && !fits(project, task, day)) {
                day++;
            }
            return day;
        }

        private boolean fits(Project project, int task, int start) {
            int resource = at(project.resources, task);
            int firstCell = resource * DAYS;
            int room = at(project.limits, resource) - at(project.demands, task);
            int finish = start + at(project.durations, task);
            for (int day = start; day < finish; day++) {
                if (at(used, firstCell + day) > room) {
                    return false;
                }
            }
            return true;
        }

        private void place(Project project, int task, int start) {
            put(levelled, task, start);
            int firstCell = at(project.resources, task) * DAYS;
            int finish = start + at(project.durations, task);
            for (int day = start; day < finish; day++) {
                put(used, firstCell + day, at(used, firstCell + day) + at(project.demands, task));
            }
            levelledEnd = Math.max(levelledEnd, finish);
        }
    }

    /** The states before the latest changes, in a ring. */
    private static final class History {
        private final Project[] states = new Project[UNDOS];
        private int count;
        private int next;

        private History() {
            for (int index = 0; index < states.length; index++) {
                states[index] = new Project();
            }
        }

        private void keep(Project project) {
            Project free = stateAt(next);
            if (free != null) {
                free.copyFrom(project);
            }
            next = next + 1 < UNDOS ? next + 1 : 0;
            count = Math.min(count + 1, UNDOS);
        }

        private void takeInto(Project project) {
            next = next > 0 ? next - 1 : UNDOS - 1;
            count = Math.max(count - 1, 0);
            Project latest = stateAt(next);
            if (latest != null) {
                project.copyFrom(latest);
            }
        }

        private void clear() {
            count = 0;
        }

        private Project stateAt(int index) {
            return index >= 0 && index < states.length ? states[index] : null;
        }
    }

    /** The script buffer, and the commands that were read from it. */
    private static final class Script {
        private final char[] signs = new char[SCRIPT_LENGTH];
        // No command is shorter than four characters, so there are fewer commands than this.
        private final Command[] commands = new Command[SCRIPT_LENGTH];
        private final int[] numbers = new int[SCRIPT_LENGTH * MOST_NUMBERS];
        private int length;
        private int commandCount;
        private int position;

        private void append(char sign) {
            if (length >= 0 && length < signs.length) {
                signs[length] = sign;
                length++;
            }
        }

        private void clear() {
            length = 0;
        }

        private Command commandAt(int index) {
            return index >= 0 && index < commands.length ? commands[index] : null;
        }

        private int numberAt(int command, int place) {
            return at(numbers, command * MOST_NUMBERS + place);
        }

        /** Reads all commands; answers false for a wrong form, the position then being that of the error. */
        private boolean read() {
            position = 0;
            commandCount = 0;
            boolean goesOn = true;
            for (int round = 0; goesOn && round < commands.length; round++) {
                if (!readCommand()) {
                    return false;
                }
                goesOn = position < length && charAt(signs, position) == ';';
                if (goesOn) {
                    position++;
                }
            }
            return !goesOn && position == length;
        }

        private boolean readCommand() {
            int start = position;
            int farthest = start;
            for (Command command : COMMANDS) {
                position = start;
                if (command != null && follows(command.form)) {
                    if (commandCount >= 0 && commandCount < commands.length) {
                        commands[commandCount] = command;
                        commandCount++;
                    }
                    return true;
                }
                farthest = Math.max(farthest, position);
            }
            position = farthest;
            return false;
        }

        /** Moves on as far as the text follows the form; answers whether it follows it to its end. */
        private boolean follows(String form) {
            int place = 0;
            for (int index = 0; index < form.length(); index++) {
                char expected = form.charAt(index);
                if (expected == '#' || expected == '%') {
                    if (!readNumber(place, expected == '%' ? 2 : 1)) {
                        return false;
                    }
                    place++;
                } else if (position < length && charAt(signs, position) == expected) {
                    position++;
                } else {
                    return false;
                }
            }
            return true;
        }

        private boolean readNumber(int place, int mostDigits) {
            int number = 0;
            int digits = 0;
            while (digits < mostDigits && isDigitAt(position)) {
                number = 10 * number + charAt(signs, position) - '0';
                position++;
                digits++;
            }
            put(numbers, commandCount * MOST_NUMBERS + place, number);
            return digits > 0;
        }

        private boolean isDigitAt(int index) {
            return index < length && isWithin(charAt(signs, index), '0', '9');
        }
    }

    /** The output text. */
    private static final class Output {
        private final char[] signs = new char[OUTPUT_LENGTH];
        private int length;

        private void clear() {
            length = 0;
        }

        private void write(char sign) {
            if (length >= 0 && length < signs.length) {
                signs[length] = sign;
                length++;
            }
        }

        private void writeNumber(int number) {
            // Nothing that is written reaches 1000: days are the greatest numbers.
            if (number >= 100) {
                write((char) ('0' + number / 100 % 10));
            }
            if (number >= 10) {
                write((char) ('0' + number / 10 % 10));
            }
            write((char) ('0' + number % 10));
        }
    }
}
