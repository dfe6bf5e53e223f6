import java.util.ArrayList;
import java.util.Arrays;
import java.util.List;
import java.util.concurrent.atomic.AtomicInteger;
import java.util.stream.IntStream;

/** Every run of a few calls, in every order of them, that the class and the model must answer alike. */
public final class ShortRunsTest {
    private static final int CALLS = 5;
    private static final int MOST_TOLD = 5;

    private interface OfServer {
        Object on(Compactforms server);
    }

    private interface OfModel {
        Object on(Model model);
    }

    private static final class Step {
        final String name;
        final OfServer server;
        final OfModel model;

        Step(String name, OfServer server, OfModel model) {
            this.name = name;
            this.server = server;
            this.model = model;
        }
    }

    private static final Checks checks = new Checks("ShortRunsTest");

    private final String title;
    private final List<Step> steps = new ArrayList<>();
    private final AtomicInteger failed = new AtomicInteger();

    private ShortRunsTest(String title) {
        this.title = title;
    }

    public static void main(String[] args) {
        int calls = args.length > 1 ? Integer.parseInt(args[1]) : CALLS;
        lists().all(calls);
        streams().all(calls);
        members().all(calls);
        types().all(calls);
        checks.finish();
    }

    // ---- the calls that runs are made of

    private ShortRunsTest with(String name, OfServer server, OfModel model) {
        steps.add(new Step(name, server, model));
        return this;
    }

    private ShortRunsTest withKeysAndLog() {
        return with("expire(0, 2)", x -> x.expire(0, 2), x -> x.expire(0, 2))
            .with("remove(0)", x -> x.remove(0), x -> x.remove(0))
            .with("tick(1)", x -> x.tick(1), x -> x.tick(1))
            .with("sample(1)", x -> x.sample(1), x -> x.sample(1))
            .with("rewrite()", x -> x.rewrite(), x -> x.rewrite())
            .with("writeOn(1)", x -> x.writeOn(1), x -> x.writeOn(1))
            .with("restart()", x -> x.restart(), x -> x.restart());
    }

    private static ShortRunsTest lists() {
        return new ShortRunsTest("lists")
            .with("push(0, 1, true)", x -> x.push(0, 1, true), x -> x.push(0, 1, true))
            .with("push(0, 300, false)", x -> x.push(0, 300, false), x -> x.push(0, 300, false))
            .with("pop(0, false)", x -> x.pop(0, false), x -> x.pop(0, false))
            .with("push(1, 2, true)", x -> x.push(1, 2, true), x -> x.push(1, 2, true))
            .with("expire(1, 2)", x -> x.expire(1, 2), x -> x.expire(1, 2))
            .withKeysAndLog();
    }

    private static ShortRunsTest streams() {
        return new ShortRunsTest("streams")
            .with("append(0, 3)", x -> x.append(0, 3), x -> x.append(0, 3))
            .with("read(0, 1, 2)", x -> x.read(0, 1, 2), x -> x.read(0, 1, 2))
            .with("claim(0, 1, 3, 1)", x -> x.claim(0, 1, 3, 1), x -> x.claim(0, 1, 3, 1))
            .with("claim(0, 1, 2, 0)", x -> x.claim(0, 1, 2, 0), x -> x.claim(0, 1, 2, 0))
            .with("done(0, 1, 1)", x -> x.done(0, 1, 1), x -> x.done(0, 1, 1))
            .withKeysAndLog();
    }

    private static ShortRunsTest members() {
        return new ShortRunsTest("members")
            .with("rate(0, 5, 1.0)", x -> x.rate(0, 5, Bits.ONE), x -> x.rate(0, 5, Bits.ONE))
            .with("rate(0, 4, -0.0)", x -> x.rate(0, 4, Bits.MINUS_ZERO), x -> x.rate(0, 4, Bits.MINUS_ZERO))
            .with("rate(0, 5, 0.0)", x -> x.rate(0, 5, Bits.ZERO), x -> x.rate(0, 5, Bits.ZERO))
            .with("add(0, 5)", x -> x.add(0, 5), x -> x.add(0, 5))
            .with("add(0, 4)", x -> x.add(0, 4), x -> x.add(0, 4))
            .with("take(0, 5)", x -> x.take(0, 5), x -> x.take(0, 5))
            .withKeysAndLog();
    }

    private static ShortRunsTest types() {
        return new ShortRunsTest("types")
            .with("push(0, 1, true)", x -> x.push(0, 1, true), x -> x.push(0, 1, true))
            .with("append(0, 3)", x -> x.append(0, 3), x -> x.append(0, 3))
            .with("read(0, 1, 2)", x -> x.read(0, 1, 2), x -> x.read(0, 1, 2))
            .with("add(0, 7)", x -> x.add(0, 7), x -> x.add(0, 7))
            .with("append(1, 4)", x -> x.append(1, 4), x -> x.append(1, 4))
            .with("expire(1, 1)", x -> x.expire(1, 1), x -> x.expire(1, 1))
            .withKeysAndLog();
    }

    // ---- the runs

    private void all(int calls) {
        int runs = 1;
        for (int i = 0; i < calls; i++) {
            runs *= steps.size();
        }
        IntStream.range(0, runs).parallel().forEach(number -> run(number, calls));
        checks.part(title);
        checks.same("runs that differ, of " + runs, 0, failed.get());
    }

    /** The number of a run tells its calls, as its digits. */
    private void run(int number, int calls) {
        Compactforms server = new Compactforms();
        Model model = new Model();
        StringBuilder told = new StringBuilder();
        String fault = "";
        int rest = number;
        for (int i = 0; i < calls && fault.isEmpty(); i++) {
            Step step = steps.get(rest % steps.size());
            rest /= steps.size();
            told.append(step.name).append("; ");
            fault = compared("answer", Checks.answerOf(() -> step.server.on(server)), Checks.answerOf(() -> step.model.on(model)));
        }
        if (fault.isEmpty()) {
            fault = differences(server, model);
        }
        if (!fault.isEmpty() && failed.incrementAndGet() <= MOST_TOLD) {
            System.out.println("ShortRunsTest, " + title + ": " + told + fault);
        }
    }

    private static String compared(String what, Object got, Object due) {
        return got.equals(due) ? "" : what + " is " + got + ", due is " + due;
    }

    /** All that can be asked then, when the rewriting is through, and behind a restart from what it wrote. */
    private static String differences(Compactforms server, Model model) {
        String fault = asked(server, model);
        if (fault.isEmpty()) {
            fault = compared("writeOn(16)", Checks.answerOf(() -> server.writeOn(16)), Checks.answerOf(() -> model.writeOn(16)));
        }
        if (fault.isEmpty()) {
            fault = compared("rows() behind the rewriting", server.rows(), model.rows());
        }
        if (fault.isEmpty()) {
            fault = compared("restart()", server.restart(), model.restart());
        }
        if (fault.isEmpty()) {
            fault = asked(server, model);
        }
        // Since when entries wait shows only here: the first claim that gets them tells it.
        for (int ticks = CALLS; ticks >= 0 && fault.isEmpty(); ticks--) {
            int since = ticks;
            fault = compared("claim with " + ticks, Checks.answerOf(() -> server.claim(0, 1, 0, since)),
                Checks.answerOf(() -> model.claim(0, 1, 0, since)));
        }
        return fault;
    }

    private static String asked(Compactforms x, Model y) {
        String fault = compared("held()", x.held(), y.held());
        if (fault.isEmpty()) {
            fault = compared("rows()", x.rows(), y.rows());
        }
        for (int key = 0; key < 2 && fault.isEmpty(); key++) {
            int[] got = {
                x.typeOf(key), x.formOf(key), x.left(key), x.size(key),
                x.waiting(key, 1, 0), x.waiting(key, 1, 1), x.waiting(key, 1, 2), x.waiting(key, 1, 3),
            };
            int[] due = {
                y.typeOf(key), y.formOf(key), y.left(key), y.size(key),
                y.waiting(key, 1, 0), y.waiting(key, 1, 1), y.waiting(key, 1, 2), y.waiting(key, 1, 3),
            };
            fault = compared("type, form, left, size, what waits of " + key, Arrays.toString(got), Arrays.toString(due));
            for (int i = 0; i < x.size(key) && fault.isEmpty(); i++) {
                fault = askedOfEntry(x, y, key, i);
            }
        }
        return fault;
    }

    private static String askedOfEntry(Compactforms x, Model y, int key, int index) {
        int entry = y.at(key, index);
        if (x.at(key, index) != entry || x.atByPlain(key, index) != entry) {
            return "at() or atByPlain() of " + key + " is not " + entry + " for " + index;
        }
        boolean sorted = y.typeOf(key) == Compactforms.SORTED;
        return sorted ? compared("points() of " + entry, x.points(key, entry), y.points(key, entry)) : "";
    }
}
