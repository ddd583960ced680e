import java.util.ArrayDeque;
import java.util.ArrayList;
import java.util.Comparator;
import java.util.Deque;
import java.util.HashMap;
import java.util.List;
import java.util.Map;
import java.util.NoSuchElementException;
import java.util.regex.Matcher;
import java.util.regex.Pattern;

/** The document once more, as slow and as near to its words as can be, to compare answers with. */
final class Reference {
    private static final Pattern COMMAND = Pattern.compile(
            "task ([0-9]) ([0-9]) ([0-9]) ([0-9][0-9]?)|drop ([0-9][0-9]?)|link ([0-9][0-9]?)>([0-9][0-9]?)"
            + "|unlink ([0-9][0-9]?)>([0-9][0-9]?)|limit ([0-9]) ([0-9][0-9]?)|resize ([0-9][0-9]?) ([0-9])"
            + "|delay ([0-9][0-9]?) ([0-9][0-9]?)|mark");
    private static final Pattern SCRIPT = Pattern.compile("(?:" + COMMAND + ")(?:;(?:" + COMMAND + "))*");

    private static final class Task {
        int duration;
        int resource;
        int demand;
        int release;
        Integer baseline;
        List<Task> needed = new ArrayList<>();
    }

    private static final class State {
        List<Task> tasks = new ArrayList<>();
        int[] limits = {10, 10, 10};
        boolean hasBaseline;

        State copy() {
            State copy = new State();
            copy.limits = limits.clone();
            copy.hasBaseline = hasBaseline;
            for (Task task : tasks) {
                Task twin = new Task();
                twin.duration = task.duration;
                twin.resource = task.resource;
                twin.demand = task.demand;
                twin.release = task.release;
                twin.baseline = task.baseline;
                copy.tasks.add(twin);
            }
            for (int i = 0; i < tasks.size(); i++) {
                for (Task needed : tasks.get(i).needed) {
                    copy.tasks.get(i).needed.add(copy.tasks.get(tasks.indexOf(needed)));
                }
            }
            return copy;
        }
    }

    private State state = new State();
    private State saved;
    private final Deque<State> past = new ArrayDeque<>();
    private String buffer = "";
    private String output = "";
    private int errorPosition = -1;
    private int failedCommand = -1;
    private char failureReason;
    private boolean inScript;

    private Task task(int task) {
        if (task < 0 || task >= state.tasks.size()) {
            throw new IndexOutOfBoundsException();
        }
        return state.tasks.get(task);
    }

    private static void argument(boolean isFine) {
        if (!isFine) {
            throw new IllegalArgumentException();
        }
    }

    private static void resourceIsThere(int resource) {
        argument(resource >= 0 && resource <= 2);
    }

    private void change() {
        if (!inScript) {
            past.addLast(state.copy());
            if (past.size() > 8) {
                past.removeFirst();
            }
        }
    }

    int addTask(int duration, int resource, int demand, int release) {
        argument(1 <= duration && duration <= 9 && 0 <= resource && resource <= 2);
        argument(1 <= demand && demand <= 5 && 0 <= release && release <= 30);
        if (state.tasks.size() == 12) {
            throw new IllegalStateException();
        }
        change();
        Task task = new Task();
        task.duration = duration;
        task.resource = resource;
        task.demand = demand;
        task.release = release;
        state.tasks.add(task);
        return state.tasks.size() - 1;
    }

    int removeTask(int index) {
        task(index);
        change();
        Task gone = state.tasks.remove(index);
        for (Task task : state.tasks) {
            task.needed.remove(gone);
        }
        return state.tasks.size();
    }

    boolean addDependency(int index, int neededIndex) {
        task(index);
        task(neededIndex);
        argument(index != neededIndex);
        if (chain(task(neededIndex), task(index))) {
            throw new UnsupportedOperationException();
        }
        change();
        Task task = task(index);
        Task needed = task(neededIndex);
        return !task.needed.contains(needed) && task.needed.add(needed);
    }

    boolean removeDependency(int index, int neededIndex) {
        task(index);
        task(neededIndex);
        change();
        return task(index).needed.remove(task(neededIndex));
    }

    int setDuration(int index, int duration) {
        task(index);
        argument(1 <= duration && duration <= 9);
        change();
        int before = task(index).duration;
        task(index).duration = duration;
        return before;
    }

    int setRelease(int index, int release) {
        task(index);
        argument(0 <= release && release <= 30);
        change();
        int before = task(index).release;
        task(index).release = release;
        return before;
    }

    int setLimit(int resource, int limit) {
        resourceIsThere(resource);
        argument(5 <= limit && limit <= 20);
        change();
        int before = state.limits[resource];
        state.limits[resource] = limit;
        return before;
    }

    int takeBaseline() {
        change();
        Map<Task, Integer> starts = levelled();
        for (Task task : state.tasks) {
            task.baseline = starts.get(task);
        }
        state.hasBaseline = true;
        return levelledLength();
    }

    int taskCount() {
        return state.tasks.size();
    }

    int duration(int index) {
        return task(index).duration;
    }

    int resource(int index) {
        return task(index).resource;
    }

    int demand(int index) {
        return task(index).demand;
    }

    int release(int index) {
        return task(index).release;
    }

    int limit(int resource) {
        resourceIsThere(resource);
        return state.limits[resource];
    }

    boolean dependsDirectly(int index, int needed) {
        return task(index).needed.contains(task(needed));
    }

    private static boolean chain(Task task, Task wanted) {
        for (Task needed : task.needed) {
            if (needed == wanted || chain(needed, wanted)) {
                return true;
            }
        }
        return false;
    }

    boolean depends(int index, int needed) {
        return chain(task(index), task(needed));
    }

    int neededCount(int index) {
        return task(index).needed.size();
    }

    int dependentCount(int index) {
        Task wanted = task(index);
        return (int) state.tasks.stream().filter(task -> task.needed.contains(wanted)).count();
    }

    int taskInOrder(int position) {
        List<Task> order = new ArrayList<>();
        while (order.size() < state.tasks.size()) {
            for (Task task : state.tasks) {
                if (!order.contains(task) && order.containsAll(task.needed)) {
                    order.add(task);
                    break;
                }
            }
        }
        if (position < 0 || position >= order.size()) {
            throw new NoSuchElementException();
        }
        return state.tasks.indexOf(order.get(position));
    }

    private static int earliest(Task task) {
        int start = task.release;
        for (Task needed : task.needed) {
            start = Math.max(start, earliest(needed) + needed.duration);
        }
        return start;
    }

    private int latest(Task task) {
        int finish = projectLength();
        for (Task other : state.tasks) {
            if (other.needed.contains(task)) {
                finish = Math.min(finish, latest(other));
            }
        }
        return finish - task.duration;
    }

    int earliestStart(int index) {
        return earliest(task(index));
    }

    int latestStart(int index) {
        return latest(task(index));
    }

    private int slack(Task task) {
        return latest(task) - earliest(task);
    }

    int slack(int index) {
        return slack(task(index));
    }

    boolean isCritical(int index) {
        return slack(task(index)) == 0;
    }

    int projectLength() {
        return state.tasks.stream().mapToInt(task -> earliest(task) + task.duration).max().orElse(0);
    }

    int criticalCount() {
        return (int) state.tasks.stream().filter(task -> slack(task) == 0).count();
    }

    int lastTask() {
        Task last = null;
        for (Task task : state.tasks) {
            if (last == null || earliest(task) + task.duration > earliest(last) + last.duration) {
                last = task;
            }
        }
        if (last == null) {
            throw new NoSuchElementException();
        }
        return state.tasks.indexOf(last);
    }

    private Map<Task, Integer> levelled() {
        Map<Task, Integer> starts = new HashMap<>();
        Map<Task, Integer> latest = new HashMap<>();
        for (Task task : state.tasks) {
            latest.put(task, latest(task));
        }
        while (starts.size() < state.tasks.size()) {
            Task next = state.tasks.stream()
                    .filter(task -> !starts.containsKey(task) && starts.keySet().containsAll(task.needed))
                    .min(Comparator.<Task>comparingInt(latest::get).thenComparingInt(state.tasks::indexOf))
                    .orElseThrow();
            int day = next.release;
            while (!mayStart(next, day, starts)) {
                day++;
            }
            starts.put(next, day);
        }
        return starts;
    }

    private boolean mayStart(Task task, int day, Map<Task, Integer> starts) {
        for (Task needed : task.needed) {
            if (day < starts.get(needed) + needed.duration) {
                return false;
            }
        }
        for (int worked = day; worked < day + task.duration; worked++) {
            if (used(task.resource, worked, starts) + task.demand > state.limits[task.resource]) {
                return false;
            }
        }
        return true;
    }

    private static int used(int resource, int day, Map<Task, Integer> starts) {
        int units = 0;
        for (Map.Entry<Task, Integer> placed : starts.entrySet()) {
            Task task = placed.getKey();
            boolean works = placed.getValue() <= day && day < placed.getValue() + task.duration;
            units += works && task.resource == resource ? task.demand : 0;
        }
        return units;
    }

    int levelledStart(int index) {
        Task task = task(index);
        return levelled().get(task);
    }

    int levelledLength() {
        return levelled().entrySet().stream()
                .mapToInt(placed -> placed.getValue() + placed.getKey().duration).max().orElse(0);
    }

    int usage(int resource, int day) {
        resourceIsThere(resource);
        argument(day >= 0);
        return used(resource, day, levelled());
    }

    int peakUsage(int resource) {
        resourceIsThere(resource);
        int peak = 0;
        Map<Task, Integer> starts = levelled();
        for (int day = 0; day < 200; day++) {
            peak = Math.max(peak, used(resource, day, starts));
        }
        return peak;
    }

    int tasksOn(int day) {
        argument(day >= 0);
        return (int) levelled().entrySet().stream()
                .filter(placed -> placed.getValue() <= day && day < placed.getValue() + placed.getKey().duration)
                .count();
    }

    int workload(int resource) {
        resourceIsThere(resource);
        return state.tasks.stream().filter(task -> task.resource == resource)
                .mapToInt(task -> task.duration * task.demand).sum();
    }

    boolean hasBaseline() {
        return state.hasBaseline;
    }

    int baselineStart(int index) {
        Task task = task(index);
        if (task.baseline == null) {
            throw new NoSuchElementException();
        }
        return task.baseline;
    }

    int drift(int index) {
        int start = baselineStart(index);
        return levelledStart(index) - start;
    }

    int totalDrift() {
        if (!state.hasBaseline) {
            throw new NoSuchElementException();
        }
        Map<Task, Integer> starts = levelled();
        return state.tasks.stream().filter(task -> task.baseline != null)
                .mapToInt(task -> Math.abs(starts.get(task) - task.baseline)).sum();
    }

    private int ranked(int rank, Comparator<Task> comparator) {
        List<Task> sorted = new ArrayList<>(state.tasks);
        sorted.sort(comparator.thenComparingInt(state.tasks::indexOf));
        if (rank < 0 || rank >= sorted.size()) {
            throw new NoSuchElementException();
        }
        return state.tasks.indexOf(sorted.get(rank));
    }

    int taskBySlack(int rank) {
        return ranked(rank, Comparator.<Task>comparingInt(this::slack).thenComparingInt(task -> -task.duration));
    }

    int taskByStart(int rank) {
        Map<Task, Integer> starts = levelled();
        return ranked(rank, Comparator.<Task>comparingInt(starts::get).thenComparingInt(task -> -task.demand));
    }

    double meanSlack() {
        if (state.tasks.isEmpty()) {
            throw new ArithmeticException();
        }
        return (double) state.tasks.stream().mapToInt(this::slack).sum() / (double) state.tasks.size();
    }

    float utilization(int resource) {
        resourceIsThere(resource);
        if (state.tasks.isEmpty()) {
            throw new ArithmeticException();
        }
        return (float) workload(resource) / (float) (state.limits[resource] * levelledLength());
    }

    int renderTask(int index) {
        Task task = task(index);
        StringBuilder text = new StringBuilder();
        text.append(index).append(':').append(task.duration).append('x').append(task.demand).append('r');
        text.append(task.resource).append('@').append(levelledStart(index)).append(slack(task) == 0 ? "!" : "");
        task.needed.stream().mapToInt(state.tasks::indexOf).sorted().forEach(i -> text.append('<').append(i));
        output = text.toString();
        return output.length();
    }

    int renderUsage(int resource) {
        resourceIsThere(resource);
        List<String> days = new ArrayList<>();
        Map<Task, Integer> starts = levelled();
        int length = levelledLength();
        for (int day = 0; day < length; day++) {
            days.add(String.valueOf(used(resource, day, starts)));
        }
        output = String.join(",", days);
        return output.length();
    }

    char outputAt(int index) {
        if (index < 0 || index >= output.length()) {
            throw new IndexOutOfBoundsException();
        }
        return output.charAt(index);
    }

    int type(char sign) {
        argument(sign >= 32 && sign <= 126);
        if (buffer.length() == 60) {
            throw new IllegalStateException();
        }
        buffer += sign;
        return buffer.length();
    }

    int runScript() {
        String script = buffer;
        buffer = "";
        if (!SCRIPT.matcher(script).matches()) {
            errorPosition = firstWrong(script);
            throw new IllegalArgumentException();
        }
        String[] commands = script.split(";");
        State before = state;
        state = before.copy();
        inScript = true;
        for (int i = 0; i < commands.length; i++) {
            String outcome = String.valueOf(Check.outcome(command(commands[i])));
            if (outcome.startsWith("throws ")) {
                inScript = false;
                state = before;
                failedCommand = i;
                failureReason = reason(outcome);
                throw new IllegalStateException();
            }
        }
        inScript = false;
        State after = state;
        state = before;
        change();
        state = after;
        return commands.length;
    }

    private static char reason(String outcome) {
        switch (outcome) {
            case "throws IndexOutOfBoundsException": return 'i';
            case "throws IllegalArgumentException": return 'a';
            case "throws IllegalStateException": return 's';
            case "throws UnsupportedOperationException": return 'u';
            default: throw new Error(outcome);
        }
    }

    /** The length of the longest beginning that some script of the form begins with. */
    private static int firstWrong(String script) {
        int length = script.length();
        while (length > 0) {
            Matcher matcher = SCRIPT.matcher(script.substring(0, length));
            if (matcher.matches() || matcher.hitEnd()) {
                return length;
            }
            length--;
        }
        return 0;
    }

    private Check.Call command(String text) {
        String[] words = text.split("[ >]");
        int[] n = new int[words.length];
        for (int i = 1; i < words.length; i++) {
            n[i] = Integer.parseInt(words[i]);
        }
        switch (words[0]) {
            case "task": return () -> addTask(n[1], n[2], n[3], n[4]);
            case "drop": return () -> removeTask(n[1]);
            case "link": return () -> addDependency(n[1], n[2]);
            case "unlink": return () -> removeDependency(n[1], n[2]);
            case "limit": return () -> setLimit(n[1], n[2]);
            case "resize": return () -> setDuration(n[1], n[2]);
            case "delay": return () -> setRelease(n[1], n[2]);
            case "mark": return this::takeBaseline;
            default: throw new Error(text);
        }
    }

    private static int kept(int number) {
        if (number < 0) {
            throw new NoSuchElementException();
        }
        return number;
    }

    int errorPosition() {
        return kept(errorPosition);
    }

    int failedCommand() {
        return kept(failedCommand);
    }

    char failureReason() {
        kept(failedCommand);
        return failureReason;
    }

    int undo() {
        if (past.isEmpty()) {
            throw new IllegalStateException();
        }
        state = past.removeLast();
        return past.size();
    }

    int save() {
        saved = state.copy();
        return state.tasks.size();
    }

    int restore() {
        if (saved == null) {
            throw new IllegalStateException();
        }
        state = saved.copy();
        past.clear();
        return state.tasks.size();
    }
}
