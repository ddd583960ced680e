/** Counts the answers that are not as due, for the tests of one file. */
final class Check {
    interface Call {
        Object answer();
    }

    private int calls = 0;
    private int wrong = 0;
    private String promise = "";

    void promise(int number, String name) {
        promise = "promise " + number + " (" + name + ")";
    }

    void about(String name) {
        promise = name;
    }

    void equal(String what, Object due, Object got) {
        calls++;
        if (!due.equals(got)) {
            wrong++;
            System.out.println(promise + ": " + what + " answered " + got + ", due is " + due);
        }
    }

    /** The very class is due: a subclass would come from the machine, not from a throw. */
    void refuses(String what, Class<? extends RuntimeException> due, Call call) {
        equal(what, "throws " + due.getSimpleName(), outcome(call));
    }

    int wrong() {
        return wrong;
    }

    static Object outcome(Call call) {
        try {
            return call.answer();
        } catch (RuntimeException e) {
            return "throws " + e.getClass().getSimpleName();
        }
    }

    void end() {
        System.out.println(calls + " answers looked at, " + wrong + " wrong");
        if (wrong > 0 || calls == 0) {
            System.exit(1);
        }
    }
}
