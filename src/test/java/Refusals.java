import java.util.ArrayList;
import java.util.List;

/**
 * Every method with each argument at the last values that are allowed and the first ones that are not, in
 * each state that it refuses, and with two of these at once; and that a call that throws changes nothing.
 */
final class Refusals {
    private static final int ABSENT = Compactforms.ABSENT, LIST = Compactforms.LIST, SET = Compactforms.SET;
    private static final int SORTED = Compactforms.SORTED, STREAM = Compactforms.STREAM;
    private static final int DUE = 5, ENDING = 6;

    private interface Change {
        void of(Counted x);
    }

    /** Something that a method refuses: a value of an argument, or a state that is made first. */
    private static final class Fault {
        final String what;
        final String exception;
        final int argument;
        final int value;
        final Change change;

        Fault(String what, String exception, int argument, int value, Change change) {
            this.what = what;
            this.exception = exception;
            this.argument = argument;
            this.value = value;
            this.change = change;
        }
    }

    private final Checks checks;

    Refusals(Checks checks) {
        this.checks = checks;
    }

    void all() {
        for (Face method : Face.all()) {
            allowed(method);
            everyKey(method);
            refused(method);
            severalApply(method);
            changesNothing(method);
        }
        checks.says("Promise 15:", "if it would be above 1000000");
        // A clock of 1000000 can't be reached: 512 calls of 1000 ticks each end far below.
        farthestTick();
    }

    /**
     * Under 1 to 4 a value of the type with that number, with 5 and 9 in it, under 5 one that is due, under 6
     * one with an end; an entry waits, 5 was sampled last of those two, and a rewriting has written a key.
     */
    private static Counted usual() {
        Counted x = new Counted();
        x.push(DUE, 1, true);
        x.expire(DUE, 1);
        x.push(ENDING, 1, true);
        x.expire(ENDING, 1000);
        x.sample(1);
        x.tick(1);
        for (int value : new int[] {5, 9}) {
            x.push(LIST, value, true);
            x.add(SET, value);
            x.rate(SORTED, value, Bits.ONE);
            x.append(STREAM, value);
        }
        x.read(STREAM, 0, 0);
        x.rewrite();
        x.writeOn(1);
        return x;
    }

    private static String named(Face method, int[] arguments) {
        StringBuilder told = new StringBuilder(method.name).append('(');
        for (int i = 0; i < arguments.length; i++) {
            told.append(i == 0 ? "" : ", ").append(arguments[i]);
        }
        return told.append(')').toString();
    }

    // ---- what is allowed

    private void allowed(Face method) {
        for (int i = 0; i < method.ranges.size(); i++) {
            Face.Range range = method.ranges.get(i);
            if (range == Face.Range.FREE) {
                continue;
            }
            checks.says("Promise " + method.promise + ":", "`" + method.arguments.get(i) + "`: " + range.words);
            for (int value : range.allowed()) {
                int[] arguments = method.usualArguments();
                arguments[i] = value;
                Counted x = usual();
                if (range == Face.Range.KEY) {
                    x.fill(method.type == 0 ? LIST : method.type, value, 8);
                } else if (method.promise == 28 && i == 1) {
                    x.rate(SORTED, value, Bits.ONE);
                }
                checks.answers(named(method, arguments), () -> method.call.of(x, arguments));
            }
        }
    }

    private void everyKey(Face method) {
        if (method.ranges.get(0) != Face.Range.KEY) {
            return;
        }
        checks.says("Promise " + method.promise + ":", "`key`: 0 to 15");
        Counted x = new Counted();
        for (int key = 0; key <= 15; key++) {
            int[] arguments = method.usualArguments();
            arguments[0] = key;
            x.fill(method.type == 0 ? LIST : method.type, key, 6);
            checks.answers(named(method, arguments), () -> method.call.of(x, arguments));
        }
    }

    private void farthestTick() {
        Counted x = new Counted();
        for (int i = 1; i <= 512; i++) {
            int due = i * 1000;
            checks.is("tick", due, () -> x.tick(1000));
        }
    }

    // ---- what is refused

    private static List<Fault> faults(Face method) {
        List<Fault> faults = new ArrayList<>();
        for (int i = 0; i < method.ranges.size(); i++) {
            for (int value : method.ranges.get(i).refused()) {
                String what = method.arguments.get(i) + " " + value;
                faults.add(new Fault(what, method.ranges.get(i).exception, i, value, x -> { }));
            }
        }
        addTypes(faults, method);
        if (method.makes) {
            faults.add(new Fault("40 in the value", Face.STATE, -1, 0, x -> fillUp(x, method.type)));
        }
        if (method.written) {
            faults.add(new Fault("300 rows", Face.STATE, -1, 0, x -> x.fillLog(300)));
        }
        if (method.name.equals("writeOn")) {
            faults.add(new Fault("no rewriting", Face.STATE, -1, 0, x -> x.writeOn(16)));
        }
        if (method.name.equals("points")) {
            faults.add(new Fault("no member", Face.STATE, 1, 77, x -> { }));
        }
        return faults;
    }

    private static void addTypes(List<Fault> faults, Face method) {
        for (int type = ABSENT; type <= DUE && method.type != ABSENT; type++) {
            boolean makes = method.makes && (type == ABSENT || type == DUE);
            boolean taken = method.name.equals("take") && type == SORTED;
            if (type != method.type && !makes && !taken) {
                faults.add(new Fault("key of type " + type, Face.STATE, 0, type, x -> { }));
            }
        }
    }

    private static void fillUp(Counted x, int type) {
        for (int value = 100; value < 138; value++) {
            switch (type) {
                case LIST:
                    x.push(type, value, true);
                    break;
                case SET:
                    x.add(type, value);
                    break;
                case SORTED:
                    x.rate(type, value, Bits.ONE);
                    break;
                default:
                    x.append(type, value);
            }
        }
    }

    private static int[] withFaults(Face method, Counted x, Fault... faults) {
        int[] arguments = method.usualArguments();
        for (Fault fault : faults) {
            if (fault.argument >= 0) {
                arguments[fault.argument] = fault.value;
            }
            fault.change.of(x);
        }
        return arguments;
    }

    private String wordsOf(Face method, String exception) {
        return exception.equals(Face.INDEX) ? method.ifIndex
            : exception.equals(Face.ARGUMENT) ? method.ifArgument : method.ifState;
    }

    private void refused(Face method) {
        for (String exception : new String[] {Face.INDEX, Face.ARGUMENT, Face.STATE}) {
            String words = wordsOf(method, exception);
            if (words.isEmpty()) {
                continue;
            }
            checks.says("Promise " + method.promise + ":", "Throws `" + exception + "` if " + words);
            int count = 0;
            for (Fault fault : faults(method)) {
                if (fault.exception.equals(exception)) {
                    Counted x = usual();
                    int[] arguments = withFaults(method, x, fault);
                    checks.throwsNamed(named(method, arguments) + " with " + fault.what, exception,
                        () -> method.call.of(x, arguments));
                    count++;
                }
            }
            checks.same("faults that are tried", true, count > 0);
        }
        checks.says("Exceptions", "IndexOutOfBoundsException: there is no such key, group or reader");
        checks.says("Exceptions", "IllegalArgumentException: another argument is out of its range.");
        checks.says("Exceptions", "IllegalStateException: as a method tells.");
        for (Fault fault : faults(method)) {
            checks.same(method.name + " tells why it throws for " + fault.what, false,
                wordsOf(method, fault.exception).isEmpty());
        }
    }

    private void severalApply(Face method) {
        checks.says("Exceptions", "If several apply, the one that the throws clause names first is thrown.");
        List<Fault> faults = faults(method);
        for (int i = 0; i < faults.size(); i++) {
            for (int j = i + 1; j < faults.size(); j++) {
                Fault one = faults.get(i);
                Fault other = faults.get(j);
                if (one.argument >= 0 && one.argument == other.argument) {
                    continue;
                }
                // 40 entries and 300 rows at once take most of the calls that there are.
                Counted x = usual();
                int[] arguments = withFaults(method, x, one, other);
                checks.throwsNamed(named(method, arguments) + " with " + one.what + " and " + other.what,
                    Face.firstOf(one.exception, other.exception), () -> method.call.of(x, arguments));
            }
        }
        allApply(method, faults);
    }

    private void allApply(Face method, List<Fault> faults) {
        Counted x = usual();
        boolean[] taken = new boolean[method.ranges.size()];
        List<Fault> some = new ArrayList<>();
        String due = Face.STATE;
        for (Fault fault : faults) {
            if (fault.argument < 0 || !taken[fault.argument]) {
                some.add(fault);
                due = Face.firstOf(due, fault.exception);
            }
            if (fault.argument >= 0) {
                taken[fault.argument] = true;
            }
        }
        int[] arguments = withFaults(method, x, some.toArray(new Fault[0]));
        checks.throwsNamed(named(method, arguments) + " with all at once", due, () -> method.call.of(x, arguments));
    }

    // ---- what a refused call leaves

    /** Two objects get the same calls, one of them the refused one beside: what they tell later is the same. */
    private void changesNothing(Face method) {
        checks.says("Exceptions", "A call that throws changes nothing.");
        for (Fault fault : faults(method)) {
            Counted x = usual();
            Counted twin = usual();
            int[] arguments = withFaults(method, x, fault);
            withFaults(method, twin, fault);
            Object answer = Checks.answerOf(() -> method.call.of(x, arguments));
            checks.same(named(method, arguments) + " is refused", "throws." + fault.exception, answer);
            checks.same("what is told behind " + named(method, arguments) + " with " + fault.what, later(twin), later(x));
        }
    }

    private static String later(Counted x) {
        StringBuilder told = new StringBuilder();
        told.append(x.rows()).append(' ').append(x.held()).append('\n');
        told.append(x.told(0, LIST, SET, SORTED, STREAM, DUE, ENDING));
        for (int type = LIST; type <= STREAM; type++) {
            told.append(x.formOf(type)).append(' ');
        }
        told.append(Checks.answerOf(() -> x.writeOn(1))).append(' ');
        told.append(x.sample(1)).append(' ').append(x.tick(1)).append(' ').append(x.held()).append(' ');
        told.append(Checks.answerOf(() -> x.claim(STREAM, 0, 1, 1))).append(' ');
        told.append(Checks.answerOf(() -> x.read(STREAM, 0, 0))).append(' ');
        told.append(Checks.answerOf(() -> x.read(STREAM, 1, 0))).append('\n');
        told.append(x.restart()).append(' ').append(x.rows()).append(' ').append(x.held()).append(' ');
        told.append(x.sample(1)).append('\n');
        for (int key = 0; key <= 15; key++) {
            told.append(x.typeOf(key)).append(x.size(key)).append(' ');
        }
        return told.toString();
    }
}
