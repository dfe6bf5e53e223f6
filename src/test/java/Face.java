import java.util.ArrayList;
import java.util.List;

/** The methods of the face in a table: what their arguments are, and when they throw what. */
final class Face {
    static final String INDEX = "IndexOutOfBoundsException";
    static final String ARGUMENT = "IllegalArgumentException";
    static final String STATE = "IllegalStateException";

    private static final int LIST = Compactforms.LIST, SET = Compactforms.SET;
    private static final int SORTED = Compactforms.SORTED, STREAM = Compactforms.STREAM;

    interface Call {
        Object of(Counted x, int[] arguments);
    }

    /** What an argument must be, as the document says it, and what is thrown if it is not. */
    enum Range {
        KEY("0 to 15", 0, 15, INDEX), GROUP("0 to 2", 0, 2, INDEX), READER("0 to 3", 0, 3, INDEX),
        VALUE("0 to 9999", 0, 9999, ARGUMENT), CLAIMED("0 to 1000", 0, 1000, ARGUMENT),
        TICKS("1 to 1000", 1, 1000, ARGUMENT), MANY("1 to 16", 1, 16, ARGUMENT), CURSOR("0 to 1023", 0, 1023, ARGUMENT),
        // The values of a test have two entries or members.
        PLACE("0 to the size less 1", 0, 1, INDEX), FREE("", Integer.MIN_VALUE, Integer.MAX_VALUE, ""),
        BITS("the bits of a float that is a number (infinite ones, too)", 0, 0, ARGUMENT);

        final String words;
        final int least;
        final int most;
        final String exception;

        Range(String words, int least, int most, String exception) {
            this.words = words;
            this.least = least;
            this.most = most;
            this.exception = exception;
        }

        int[] allowed() {
            return this == BITS ? Bits.ORDER : new int[] {least, most};
        }

        int[] refused() {
            if (this == FREE) {
                return new int[0];
            }
            return this == BITS ? Bits.NO_NUMBERS : new int[] {least - 1, most + 1, Integer.MIN_VALUE, Integer.MAX_VALUE};
        }
    }

    final int promise;
    final String name;
    final Call call;
    final List<String> arguments = new ArrayList<>();
    final List<Range> ranges = new ArrayList<>();
    final List<Integer> usual = new ArrayList<>();
    // The type that its key must have, 0 if any does; whether it makes a value where none is.
    int type = 0;
    boolean makes = false;
    boolean written = false;
    // What the document says of each exception, empty if it is not thrown.
    String ifIndex = "";
    String ifArgument = "";
    String ifState = "";

    private Face(int promise, String name, Call call) {
        this.promise = promise;
        this.name = name;
        this.call = call;
    }

    private Face with(String argument, Range range, int usually) {
        arguments.add(argument);
        ranges.add(range);
        usual.add(usually);
        return this;
    }

    private Face of(int ofType, boolean making) {
        type = ofType;
        makes = making;
        return this;
    }

    private Face writes() {
        written = true;
        return this;
    }

    private Face index(String words) {
        ifIndex = words;
        return this;
    }

    private Face argument(String words) {
        ifArgument = words;
        return this;
    }

    private Face state(String words) {
        ifState = words;
        return this;
    }

    private Face key(int usually) {
        return with("key", Range.KEY, usually).index("there is no such key");
    }

    /** The usual arguments, which no method refuses in the state that tests make: keys are those of types. */
    int[] usualArguments() {
        int[] all = new int[usual.size()];
        for (int i = 0; i < all.length; i++) {
            all[i] = usual.get(i);
        }
        return all;
    }

    /** INDEX ahead of ARGUMENT ahead of STATE, as in every throws clause. */
    static String firstOf(String one, String other) {
        if (one.equals(INDEX) || other.equals(INDEX)) {
            return INDEX;
        }
        return one.equals(ARGUMENT) || other.equals(ARGUMENT) ? ARGUMENT : STATE;
    }

    static List<Face> all() {
        List<Face> all = new ArrayList<>();
        addValues(all);
        addStreams(all);
        addKeys(all);
        addQuestions(all);
        return all;
    }

    private static void addValues(List<Face> all) {
        all.add(new Face(2, "push", (x, a) -> x.push(a[0], a[1], a[2] == 1)).key(LIST)
            .with("value", Range.VALUE, 77).with("atEnd", Range.FREE, 1).of(LIST, true).writes()
            .argument("value is out of range").state("the key has another type, 40 entries, or the log has 300 rows"));
        all.add(new Face(3, "pop", (x, a) -> x.pop(a[0], a[1] == 1)).key(LIST)
            .with("atEnd", Range.FREE, 1).of(LIST, false).writes().state("it is no LIST, or the log has 300 rows"));
        all.add(new Face(4, "add", (x, a) -> x.add(a[0], a[1])).key(SET)
            .with("value", Range.VALUE, 77).of(SET, true).writes().argument("value is out of range")
            .state("the key has another type, 40 members and not this one, or the log has 300 rows"));
        all.add(new Face(5, "take", (x, a) -> x.take(a[0], a[1])).key(SET)
            .with("value", Range.VALUE, 5).of(SET, false).writes().argument("value is out of range")
            .state("the key is no SET and no SORTED, or the log has 300 rows"));
        all.add(new Face(6, "rate", (x, a) -> x.rate(a[0], a[1], a[2])).key(SORTED)
            .with("member", Range.VALUE, 77).with("bits", Range.BITS, Bits.TWO).of(SORTED, true).writes()
            .argument("member is out of range, or bits are not those of a number")
            .state("the key has another type, 40 members and not this one, or the log has 300 rows"));
    }

    private static void addStreams(List<Face> all) {
        String noStream = "the key is no STREAM, or the log has 300 rows";
        all.add(new Face(7, "append", (x, a) -> x.append(a[0], a[1])).key(STREAM)
            .with("value", Range.VALUE, 77).of(STREAM, true).writes().argument("value is out of range")
            .state("the key has another type, 40 entries, or the log has 300 rows"));
        all.add(new Face(8, "read", (x, a) -> x.read(a[0], a[1], a[2])).key(STREAM)
            .with("group", Range.GROUP, 0).with("reader", Range.READER, 1).of(STREAM, false).writes()
            .index("there is no such key, group or reader").state(noStream));
        all.add(new Face(9, "done", (x, a) -> x.done(a[0], a[1], a[2])).key(STREAM)
            .with("group", Range.GROUP, 0).with("entry", Range.FREE, 1).of(STREAM, false).writes()
            .index("there is no such key or group").state(noStream));
        all.add(new Face(10, "claim", (x, a) -> x.claim(a[0], a[1], a[2], a[3])).key(STREAM)
            .with("group", Range.GROUP, 0).with("reader", Range.READER, 1).with("ticks", Range.CLAIMED, 0)
            .of(STREAM, false).writes().index("there is no such key, group or reader")
            .argument("ticks is out of range").state(noStream));
        all.add(new Face(11, "waiting", (x, a) -> x.waiting(a[0], a[1], a[2])).key(STREAM)
            .with("group", Range.GROUP, 0).with("reader", Range.READER, 0)
            .index("there is no such key, group or reader"));
    }

    private static void addKeys(List<Face> all) {
        all.add(new Face(12, "remove", (x, a) -> x.remove(a[0])).key(LIST).writes().state("the log has 300 rows"));
        all.add(new Face(13, "expire", (x, a) -> x.expire(a[0], a[1])).key(LIST)
            .with("ticks", Range.TICKS, 3).writes().argument("ticks is out of range").state("the log has 300 rows"));
        all.add(new Face(14, "left", (x, a) -> x.left(a[0])).key(LIST));
        all.add(new Face(15, "tick", (x, a) -> x.tick(a[0])).with("ticks", Range.TICKS, 3)
            .argument("ticks is out of range"));
        all.add(new Face(16, "sample", (x, a) -> x.sample(a[0])).with("many", Range.MANY, 3)
            .argument("many is out of range"));
        all.add(new Face(19, "writeOn", (x, a) -> x.writeOn(a[0])).with("keys", Range.MANY, 3)
            .argument("keys is out of range").state("no rewriting goes on"));
    }

    private static void addQuestions(List<Face> all) {
        all.add(new Face(22, "typeOf", (x, a) -> x.typeOf(a[0])).key(LIST));
        all.add(new Face(23, "formOf", (x, a) -> x.formOf(a[0])).key(LIST));
        all.add(new Face(24, "size", (x, a) -> x.size(a[0])).key(LIST));
        all.add(new Face(25, "at", (x, a) -> x.at(a[0], a[1])).key(LIST)
            .with("index", Range.PLACE, 0).index("there is no such key or index"));
        all.add(new Face(26, "atByPlain", (x, a) -> x.atByPlain(a[0], a[1])).key(LIST)
            .with("index", Range.PLACE, 0).index("there is no such key or index"));
        all.add(new Face(27, "indexOf", (x, a) -> x.indexOf(a[0], a[1])).key(LIST)
            .with("value", Range.VALUE, 5).argument("value is out of range"));
        all.add(new Face(28, "points", (x, a) -> x.points(a[0], a[1])).key(SORTED)
            .with("member", Range.VALUE, 5).of(SORTED, false).argument("member is out of range")
            .state("the key is no SORTED, or member is none of it"));
        all.add(new Face(29, "next", (x, a) -> x.next(a[0], a[1])).key(SET)
            .with("cursor", Range.CURSOR, 5).of(SET, false).argument("cursor is out of range")
            .state("the key is no SET"));
        all.add(new Face(30, "scanned", (x, a) -> x.scanned(a[0], a[1], a[2])).key(SET)
            .with("cursor", Range.CURSOR, 5).with("index", Range.FREE, 0).of(SET, false)
            .argument("cursor is out of range").state("the key is no SET"));
    }
}
