import java.util.ArrayList;
import java.util.Arrays;
import java.util.List;
import java.util.TreeMap;
import java.util.TreeSet;

/**
 * The document done once more, slowly and to the letter, with the Java library: a stream keeps the rows
 * of its own history, and a rewriting keeps copies of the values and writes them key by key.
 */
final class Model {
    private static final class Row {
        final String kind;
        final int key;
        final int first;
        final int second;
        final int third;
        final int clock;

        Row(String kind, int key, int first, int second, int third, int clock) {
            this.kind = kind;
            this.key = key;
            this.first = first;
            this.second = second;
            this.third = third;
            this.clock = clock;
        }
    }

    private static final class Waiting {
        int reader;
        int since;

        Waiting(int reader, int since) {
            this.reader = reader;
            this.since = since;
        }
    }

    private static final class Value {
        final int type;
        boolean big = false;
        int buckets = 0;
        Integer end = null;
        final List<Integer> entries = new ArrayList<>();
        final TreeSet<Integer> members = new TreeSet<>();
        final TreeMap<Integer, Float> points = new TreeMap<>();
        final int[] places = new int[3];
        final List<TreeMap<Integer, Waiting>> waits = new ArrayList<>();
        final List<Row> history = new ArrayList<>();

        Value(int type) {
            this.type = type;
            for (int group = 0; group < 3; group++) {
                waits.add(new TreeMap<>());
            }
        }

        List<Integer> inOrder() {
            if (type == Compactforms.SET) {
                return new ArrayList<>(members);
            }
            if (type != Compactforms.SORTED) {
                return entries;
            }
            List<Integer> ranked = new ArrayList<>(points.keySet());
            ranked.sort((a, b) -> {
                int order = Float.compare(points.get(a), points.get(b));
                return order != 0 ? order : Integer.compare(a, b);
            });
            return ranked;
        }
    }

    private final Value[] values = new Value[16];
    private List<Row> log = new ArrayList<>();
    private int clock = 0;
    private int lastSampled = 15;
    private boolean rewriting = false;
    private int beginning = 0;
    private List<Row> newRows = new ArrayList<>();
    private List<Row> since = new ArrayList<>();
    private final TreeMap<Integer, List<Row>> unwritten = new TreeMap<>();

    // ---- what is there

    private Value there(int key) {
        Value value = values[key];
        return value == null || value.end != null && clock >= value.end ? null : value;
    }

    private Value made(int key, int type) {
        if (there(key) == null) {
            values[key] = new Value(type);
        }
        return values[key];
    }

    private static void index(boolean fits) {
        if (!fits) {
            throw new IndexOutOfBoundsException();
        }
    }

    private static void argument(boolean fits) {
        if (!fits) {
            throw new IllegalArgumentException();
        }
    }

    private static void state(boolean fits) {
        if (!fits) {
            throw new IllegalStateException();
        }
    }

    private static boolean within(int number, int least, int most) {
        return least <= number && number <= most;
    }

    private void key(int key) {
        index(within(key, 0, 15));
    }

    private Value typed(int key, int type) {
        Value value = there(key);
        state(value != null && value.type == type);
        return value;
    }

    private void makeable(int key, int type) {
        state(there(key) == null || there(key).type == type);
    }

    private void write(String kind, int key, int first, int second, int third) {
        Row row = new Row(kind, key, first, second, third, clock);
        log.add(row);
        if (rewriting) {
            since.add(row);
        }
    }

    private void removeIfEmpty(int key) {
        if (values[key].inOrder().isEmpty()) {
            values[key] = null;
        }
    }

    // ---- what rows do, for a call and at a restart

    private int apply(Row row) {
        switch (row.kind) {
            case "push": {
                Value value = made(row.key, Compactforms.LIST);
                value.entries.add(row.second == 1 ? value.entries.size() : 0, row.first);
                value.big |= value.entries.size() >= 9 || row.first > 255;
                return value.entries.size();
            }
            case "pop": {
                Value value = there(row.key);
                int entry = value.entries.remove(row.first == 1 ? value.entries.size() - 1 : 0);
                removeIfEmpty(row.key);
                return entry;
            }
            case "add": {
                Value value = made(row.key, Compactforms.SET);
                value.members.add(row.first);
                if (!value.big && value.members.size() >= 9) {
                    value.big = true;
                    value.buckets = 16;
                }
                if (value.big && value.members.size() > value.buckets) {
                    value.buckets *= 2;
                }
                return 1;
            }
            case "take": {
                there(row.key).members.remove(row.first);
                there(row.key).points.remove(row.first);
                removeIfEmpty(row.key);
                return 1;
            }
            case "rate": {
                Value value = made(row.key, Compactforms.SORTED);
                value.points.put(row.first, Float.intBitsToFloat(row.second));
                value.big |= value.points.size() >= 7;
                return value.inOrder().indexOf(row.first);
            }
            case "remove":
                values[row.key] = null;
                return 1;
            case "end":
                there(row.key).end = row.first;
                return 1;
            default:
                return applyToStream(row);
        }
    }

    private int applyToStream(Row row) {
        Value value = made(row.key, Compactforms.STREAM);
        value.history.add(row);
        if (row.kind.equals("append")) {
            value.entries.add(row.first);
            value.big |= value.entries.size() >= 17;
            return value.entries.size();
        }
        TreeMap<Integer, Waiting> waits = value.waits.get(row.first);
        if (row.kind.equals("read")) {
            value.places[row.first]++;
            waits.put(value.places[row.first], new Waiting(row.second, clock));
            return value.places[row.first];
        }
        if (row.kind.equals("done")) {
            waits.remove(row.second);
            return 1;
        }
        int got = 0;
        for (Waiting waiting : waits.values()) {
            if (waiting.reader != row.second && clock - waiting.since >= row.third) {
                waiting.reader = row.second;
                waiting.since = clock;
                got++;
            }
        }
        return got;
    }

    private int doAndWrite(String kind, int key, int first, int second, int third) {
        int answer = apply(new Row(kind, key, first, second, third, clock));
        write(kind, key, first, second, third);
        return answer;
    }

    // ---- the face

    int push(int key, int value, boolean atEnd) {
        key(key);
        argument(within(value, 0, 9999));
        makeable(key, Compactforms.LIST);
        state(size(key) < 40 && log.size() < 300);
        return doAndWrite("push", key, value, atEnd ? 1 : 0, 0);
    }

    int pop(int key, boolean atEnd) {
        key(key);
        typed(key, Compactforms.LIST);
        state(log.size() < 300);
        return doAndWrite("pop", key, atEnd ? 1 : 0, 0, 0);
    }

    boolean add(int key, int value) {
        key(key);
        argument(within(value, 0, 9999));
        makeable(key, Compactforms.SET);
        boolean member = there(key) != null && there(key).members.contains(value);
        state((size(key) < 40 || member) && log.size() < 300);
        return !member && doAndWrite("add", key, value, 0, 0) == 1;
    }

    boolean take(int key, int value) {
        key(key);
        argument(within(value, 0, 9999));
        Value holder = there(key);
        state(holder != null && (holder.type == Compactforms.SET || holder.type == Compactforms.SORTED));
        state(log.size() < 300);
        return holder.inOrder().contains(value) && doAndWrite("take", key, value, 0, 0) == 1;
    }

    int rate(int key, int member, int bits) {
        key(key);
        argument(within(member, 0, 9999));
        argument(!Float.isNaN(Float.intBitsToFloat(bits)));
        makeable(key, Compactforms.SORTED);
        boolean known = there(key) != null && there(key).points.containsKey(member);
        state((size(key) < 40 || known) && log.size() < 300);
        return doAndWrite("rate", key, member, bits, 0);
    }

    int append(int key, int value) {
        key(key);
        argument(within(value, 0, 9999));
        makeable(key, Compactforms.STREAM);
        state(size(key) < 40 && log.size() < 300);
        return doAndWrite("append", key, value, 0, 0);
    }

    int read(int key, int group, int reader) {
        key(key);
        index(within(group, 0, 2) && within(reader, 0, 3));
        Value value = typed(key, Compactforms.STREAM);
        state(log.size() < 300);
        return value.places[group] == value.entries.size() ? -1 : doAndWrite("read", key, group, reader, 0);
    }

    boolean done(int key, int group, int entry) {
        key(key);
        index(within(group, 0, 2));
        Value value = typed(key, Compactforms.STREAM);
        state(log.size() < 300);
        return value.waits.get(group).containsKey(entry) && doAndWrite("done", key, group, entry, 0) == 1;
    }

    int claim(int key, int group, int reader, int ticks) {
        key(key);
        index(within(group, 0, 2) && within(reader, 0, 3));
        argument(within(ticks, 0, 1000));
        Value value = typed(key, Compactforms.STREAM);
        state(log.size() < 300);
        boolean some = false;
        for (Waiting waiting : value.waits.get(group).values()) {
            some |= waiting.reader != reader && clock - waiting.since >= ticks;
        }
        return some ? doAndWrite("claim", key, group, reader, ticks) : 0;
    }

    int waiting(int key, int group, int reader) {
        key(key);
        index(within(group, 0, 2) && within(reader, 0, 3));
        int count = 0;
        if (there(key) != null) {
            for (Waiting waiting : there(key).waits.get(group).values()) {
                count += waiting.reader == reader ? 1 : 0;
            }
        }
        return count;
    }

    boolean remove(int key) {
        key(key);
        state(log.size() < 300);
        return there(key) != null && doAndWrite("remove", key, 0, 0, 0) == 1;
    }

    boolean expire(int key, int ticks) {
        key(key);
        argument(within(ticks, 1, 1000));
        state(log.size() < 300);
        return there(key) != null && doAndWrite("end", key, clock + ticks, 0, 0) == 1;
    }

    int left(int key) {
        key(key);
        Value value = there(key);
        return value == null ? 0 : value.end == null ? -1 : value.end - clock;
    }

    int tick(int ticks) {
        argument(within(ticks, 1, 1000));
        state(clock + ticks <= 1000000);
        clock += ticks;
        return clock;
    }

    int sample(int many) {
        argument(within(many, 1, 16));
        int due = 0;
        int key = lastSampled;
        int sampled = 0;
        for (int passed = 0; passed < 16 && sampled < many; passed++) {
            key = key == 15 ? 0 : key + 1;
            if (values[key] != null && values[key].end != null) {
                sampled++;
                lastSampled = key;
                if (clock >= values[key].end) {
                    values[key] = null;
                    due++;
                }
            }
        }
        return due;
    }

    int held() {
        return (int) Arrays.stream(values).filter(value -> value != null).count();
    }

    int rewrite() {
        rewriting = true;
        beginning = clock;
        newRows = new ArrayList<>();
        since = new ArrayList<>();
        unwritten.clear();
        for (int key = 0; key < 16; key++) {
            if (there(key) != null) {
                unwritten.put(key, rowsOf(key, values[key]));
            }
        }
        return unwritten.size();
    }

    private List<Row> rowsOf(int key, Value value) {
        List<Row> rows = new ArrayList<>(value.history);
        if (value.type != Compactforms.STREAM) {
            String kind = value.type == Compactforms.LIST ? "push" : value.type == Compactforms.SET ? "add" : "rate";
            for (int entry : value.inOrder()) {
                int bits = value.points.containsKey(entry) ? Float.floatToIntBits(value.points.get(entry)) : 1;
                rows.add(new Row(kind, key, entry, bits, 0, beginning));
            }
        }
        if (value.end != null) {
            rows.add(new Row("end", key, value.end, 0, 0, beginning));
        }
        return rows;
    }

    int writeOn(int keys) {
        argument(within(keys, 1, 16));
        state(rewriting);
        for (int i = 0; i < keys && !unwritten.isEmpty(); i++) {
            newRows.addAll(unwritten.pollFirstEntry().getValue());
        }
        if (unwritten.isEmpty()) {
            newRows.addAll(since);
            log = newRows;
            rewriting = false;
        }
        return unwritten.size();
    }

    int restart() {
        int now = clock;
        rewriting = false;
        Arrays.fill(values, null);
        for (Row row : log) {
            clock = row.clock;
            apply(row);
        }
        clock = now;
        int count = 0;
        for (int key = 0; key < 16; key++) {
            count += there(key) != null ? 1 : 0;
        }
        return count;
    }

    int rows() {
        return log.size();
    }

    int typeOf(int key) {
        key(key);
        return there(key) == null ? 0 : there(key).type;
    }

    int formOf(int key) {
        key(key);
        return there(key) == null ? 0 : there(key).big ? 2 : 1;
    }

    int size(int key) {
        key(key);
        return there(key) == null ? 0 : there(key).inOrder().size();
    }

    int at(int key, int index) {
        key(key);
        index(within(index, 0, size(key) - 1));
        return there(key).inOrder().get(index);
    }

    int indexOf(int key, int value) {
        key(key);
        argument(within(value, 0, 9999));
        return there(key) == null ? -1 : there(key).inOrder().indexOf(value);
    }

    float points(int key, int member) {
        key(key);
        argument(within(member, 0, 9999));
        Value value = typed(key, Compactforms.SORTED);
        state(value.points.containsKey(member));
        return value.points.get(member);
    }

    int next(int key, int cursor) {
        key(key);
        argument(within(cursor, 0, 1023));
        Value value = typed(key, Compactforms.SET);
        if (!value.big) {
            return 0;
        }
        int bits = Integer.numberOfTrailingZeros(value.buckets);
        int backwards = Integer.reverse(cursor % value.buckets) >>> (32 - bits);
        return Integer.reverse((backwards + 1) % value.buckets) >>> (32 - bits);
    }

    int scanned(int key, int cursor, int index) {
        key(key);
        argument(within(cursor, 0, 1023));
        Value value = typed(key, Compactforms.SET);
        List<Integer> given = new ArrayList<>();
        for (int member : value.members) {
            if (!value.big || (193 * member + member / 32) % value.buckets == cursor % value.buckets) {
                given.add(member);
            }
        }
        return within(index, 0, given.size() - 1) ? given.get(index) : -1;
    }
}
