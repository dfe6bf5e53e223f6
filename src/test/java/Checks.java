/** Counts what is as due and prints what is not; every test ends with finish(). */
final class Checks {
    interface Call {
        Object answer();
    }

    private final String name;
    private String part = "";
    private int passed = 0;
    private int failed = 0;

    Checks(String name) {
        this.name = name;
    }

    void part(String title) {
        part = title;
    }

    void same(String what, Object due, Object got) {
        if (due.equals(got)) {
            passed++;
        } else {
            failed++;
            System.out.println(name + ", " + part + ": " + what + " is " + got + ", due is " + due);
        }
    }

    void is(String what, Object due, Call call) {
        same(what, due, answerOf(call));
    }

    void throwsIndex(String what, Call call) {
        same(what, "throws.IndexOutOfBoundsException", answerOf(call));
    }

    void throwsArgument(String what, Call call) {
        same(what, "throws.IllegalArgumentException", answerOf(call));
    }

    void throwsState(String what, Call call) {
        same(what, "throws.IllegalStateException", answerOf(call));
    }

    /** The exact class of an exception counts: one that only the machine throws is another. */
    static Object answerOf(Call call) {
        try {
            return call.answer();
        } catch (RuntimeException e) {
            return "throws." + e.getClass().getSimpleName();
        }
    }

    void finish() {
        System.out.println(name + ": " + passed + " passed, " + failed + " failed");
        if (failed != 0 || passed == 0) {
            System.exit(1);
        }
    }
}
