/**
 * The class with its calls counted: what an object answers behind its 512th call is free, so no test may
 * ask for it. Too many calls are an Error, which no check takes for an answer.
 */
final class Counted {
    private static final int MOST_CALLS = 512;

    private final Compactforms server = new Compactforms();
    private int calls = 0;

    private Compactforms one() {
        calls++;
        if (calls > MOST_CALLS) {
            throw new AssertionError("a test uses an object for more than " + MOST_CALLS + " calls");
        }
        return server;
    }

    int push(int key, int value, boolean atEnd) {
        return one().push(key, value, atEnd);
    }

    int pop(int key, boolean atEnd) {
        return one().pop(key, atEnd);
    }

    boolean add(int key, int value) {
        return one().add(key, value);
    }

    boolean take(int key, int value) {
        return one().take(key, value);
    }

    int rate(int key, int member, int bits) {
        return one().rate(key, member, bits);
    }

    int append(int key, int value) {
        return one().append(key, value);
    }

    int read(int key, int group, int reader) {
        return one().read(key, group, reader);
    }

    boolean done(int key, int group, int entry) {
        return one().done(key, group, entry);
    }

    int claim(int key, int group, int reader, int ticks) {
        return one().claim(key, group, reader, ticks);
    }

    int waiting(int key, int group, int reader) {
        return one().waiting(key, group, reader);
    }

    boolean remove(int key) {
        return one().remove(key);
    }

    boolean expire(int key, int ticks) {
        return one().expire(key, ticks);
    }

    int left(int key) {
        return one().left(key);
    }

    int tick(int ticks) {
        return one().tick(ticks);
    }

    int sample(int many) {
        return one().sample(many);
    }

    int held() {
        return one().held();
    }

    int rewrite() {
        return one().rewrite();
    }

    int writeOn(int keys) {
        return one().writeOn(keys);
    }

    int restart() {
        return one().restart();
    }

    int rows() {
        return one().rows();
    }

    int typeOf(int key) {
        return one().typeOf(key);
    }

    int formOf(int key) {
        return one().formOf(key);
    }

    int size(int key) {
        return one().size(key);
    }

    int at(int key, int index) {
        return one().at(key, index);
    }

    int atByPlain(int key, int index) {
        return one().atByPlain(key, index);
    }

    int indexOf(int key, int value) {
        return one().indexOf(key, value);
    }

    float points(int key, int member) {
        return one().points(key, member);
    }

    int next(int key, int cursor) {
        return one().next(key, cursor);
    }

    int scanned(int key, int cursor, int index) {
        return one().scanned(key, cursor, index);
    }

    // ---- made of the calls above

    void fillList(int key, int many) {
        for (int i = 0; i < many; i++) {
            push(key, i, true);
        }
    }

    void fillSet(int key, int many) {
        for (int i = 0; i < many; i++) {
            add(key, i);
        }
    }

    void fillSorted(int key, int many) {
        for (int i = 0; i < many; i++) {
            rate(key, i, 0x3f800000);
        }
    }

    void fillStream(int key, int many) {
        for (int i = 0; i < many; i++) {
            append(key, i);
        }
    }

    /** Fills a value of the type with the entries or members 0 to many - 1; a SORTED with points of 1.0. */
    void fill(int type, int key, int many) {
        switch (type) {
            case Compactforms.LIST:
                fillList(key, many);
                break;
            case Compactforms.SET:
                fillSet(key, many);
                break;
            case Compactforms.SORTED:
                fillSorted(key, many);
                break;
            default:
                fillStream(key, many);
        }
    }

    /** Fills the log with rows until it has so many: a list under key 15 that comes and goes. */
    void fillLog(int rows) {
        boolean full = typeOf(15) == Compactforms.LIST;
        for (int i = rows(); i < rows; i++) {
            if (full) {
                pop(15, true);
            } else {
                push(15, 1, true);
            }
            full = !full;
        }
    }

    /** All entries or members in their order; a question mark behind those that the plain list tells otherwise. */
    String entries(int key) {
        StringBuilder told = new StringBuilder();
        int size = size(key);
        for (int i = 0; i < size; i++) {
            int entry = at(key, i);
            told.append(entry).append(entry == atByPlain(key, i) ? " " : "? ");
        }
        return told.toString().trim();
    }

    /** All members that a scan gives for a cursor, in the order in which it gives them. */
    String scan(int key, int cursor) {
        StringBuilder told = new StringBuilder();
        int member = scanned(key, cursor, 0);
        for (int i = 1; member != Compactforms.NONE; i++) {
            told.append(member).append(' ');
            member = scanned(key, cursor, i);
        }
        return told.toString().trim();
    }

    /** How many entries wait for the readers 0 to 3 of a group. */
    String waits(int key, int group) {
        return waiting(key, group, 0) + " " + waiting(key, group, 1) + " " + waiting(key, group, 2) + " "
            + waiting(key, group, 3);
    }

    /** What the keys tell but for their forms: type, what is left, entries with their points, who waits. */
    String told(int... keys) {
        StringBuilder told = new StringBuilder();
        for (int key : keys) {
            int type = typeOf(key);
            told.append(key).append(": ").append(type).append(", ").append(left(key)).append(", ");
            String entries = entries(key);
            told.append(entries);
            if (type == Compactforms.SORTED) {
                for (String member : entries.split("[ ?]+")) {
                    told.append(' ').append(points(key, Integer.parseInt(member)));
                }
            }
            for (int group = 0; type == Compactforms.STREAM && group < 3; group++) {
                told.append(" | ").append(waits(key, group));
            }
            told.append("\n");
        }
        return told.toString();
    }
}
