import java.io.IOException;
import java.util.List;

/** One test for each sentence of the document that names a boundary, named by the promise and the sentence. */
public final class BoundariesTest {
    /** What the document says without naming a boundary; every other sentence of it must have a test of its own. */
    private static final List<String> PLAIN = """
            A scheduler of tasks with dependencies, durations and resource demands
            All integer divisions round down
            Appends a character to the script buffer
            Baseline
            Changes
            Dependencies
            Earliest and latest starts
            Exceptions
            Failures
            It has the form
            It is not thread-safe
            Levelling
            Makes a task depend directly on another one
            Removes a direct dependency
            Returns how many tasks depend directly on a task
            Returns the baseline start of a task
            Returns the character
            Returns the day
            Returns the demand of a task
            Returns the demand of all tasks for a resource on a day by levelled starts
            Returns the drift of a task
            Returns the duration of a task
            Returns the error position
            Returns the index of the task
            Returns the latest start of a task
            Returns the levelled start of a task
            Returns the limit of a resource
            Returns the mean
            Returns the number of days
            Returns the number of tasks
            Returns the number of units
            Returns the quotient
            Returns the reason
            Returns the release day of a task
            Returns the resource
            Returns the resource of a task
            Returns the slack of a task
            Returns the sum
            Returns true if it does
            Returns whether a task depends directly on another one
            Returns whether a task is critical
            Returns whether there is a baseline
            Runs the script in the script buffer
            Scripts
            Sets the duration of a task
            Sets the limit of a resource
            Sets the release day of a task
            Tasks
            The class also offers rankings, a critical path, a small command language, undo and a snapshot
            The levelled starts are found by placing the tasks one after the other
            the character
            the day
            the demand in units
            the duration in days
            the index of the character
            the index of the task
            the index of the task on which it depends
            the index of the task that could depend
            the index of the task that depends
            the new duration
            the new limit
            the new release day
            the release day
            the resource
            """.lines().toList();

    /** These are plain, too, but too long for the list. */
    private static final List<String> LONG_AND_PLAIN = List.of(
            "It computes earliest and latest starts and slack, levels the demand under daily limits, compares plans "
            + "with a baseline, and tracks progress day by day",
            "Checks the state: earliestStart and earliestStartByRounds agree for all tasks, depends and "
            + "dependsByClosure agree for all pairs, workload and workloadByDays agree for all resources, and no "
            + "levelled start is less than the earliest start of the task");

    public static void main(String[] args) throws IOException {
        Boundaries sentences = new Boundaries();
        TermsBoundaries.hold(sentences);
        ScriptTermsBoundaries.hold(sentences);
        ChangeTermsBoundaries.hold(sentences);
        ChangeBoundaries.hold(sentences);
        ReadingBoundaries.hold(sentences);
        StartBoundaries.hold(sentences);
        LevellingBoundaries.hold(sentences);
        BaselineBoundaries.hold(sentences);
        RankBoundaries.hold(sentences);
        OutputBoundaries.hold(sentences);
        ScriptBoundaries.hold(sentences);
        UndoBoundaries.hold(sentences);
        noneIsMissing(sentences);
        sentences.tell();
        Boundaries.check.end();
    }

    private static void noneIsMissing(Boundaries sentences) {
        Boundaries.check.about("the sentences of the document");
        for (String sentence : sentences.untested()) {
            boolean isPlain = PLAIN.contains(sentence) || LONG_AND_PLAIN.contains(sentence);
            Boundaries.equal("whether \"" + sentence + "\" has a test or names no boundary", true, isPlain);
        }
    }
}
