import java.util.List;

/** Counts what is as due and prints what is not; every test ends with finish(). */
final class Checks {
    interface Call {
        Object answer();
    }

    private final String name;
    private Document document = null;
    private String part = "";
    private int passed = 0;
    private int failed = 0;

    Checks(String name) {
        this.name = name;
    }

    void part(String title) {
        part = title;
    }

    /** The checks behind this are of these words of the document, in the section that begins with those. */
    void says(String section, String words) {
        String heading = document().heading(section);
        part(heading + ": \"" + words + "\"");
        same("to be in the document", true, document().quote(heading, words));
    }

    /** Every clause of the sections from one to another must have been said. */
    void allSaid(String from, String to) {
        part("the document");
        List<String> left = document().unquoted(document().heading(from), document().heading(to));
        same("clauses without a test", "", String.join("\n", left));
    }

    private Document document() {
        if (document == null) {
            document = new Document();
        }
        return document;
    }

    void same(String what, Object due, Object got) {
        if (due.equals(got)) {
            passed++;
        } else {
            failed++;
            System.out.println(name + ", " + part + ": " + what + " is " + got + ", due is " + due);
        }
    }

    void is(String what, Object due, Call call) {
        same(what, due, answerOf(call));
    }

    void throwsIndex(String what, Call call) {
        same(what, "throws.IndexOutOfBoundsException", answerOf(call));
    }

    void throwsArgument(String what, Call call) {
        same(what, "throws.IllegalArgumentException", answerOf(call));
    }

    void throwsState(String what, Call call) {
        same(what, "throws.IllegalStateException", answerOf(call));
    }

    void throwsNamed(String what, String exception, Call call) {
        same(what, "throws." + exception, answerOf(call));
    }

    /** What the answer is does not matter here, but that there is one. */
    void answers(String what, Call call) {
        Object got = answerOf(call);
        same(what + " (" + got + ") throws", false, got.toString().startsWith("throws."));
    }

    /** The exact class of an exception counts: one that only the machine throws is another. */
    static Object answerOf(Call call) {
        try {
            return call.answer();
        } catch (RuntimeException e) {
            return "throws." + e.getClass().getSimpleName();
        }
    }

    void finish() {
        System.out.println(name + ": " + passed + " passed, " + failed + " failed");
        if (failed != 0 || passed == 0) {
            System.exit(1);
        }
    }
}
