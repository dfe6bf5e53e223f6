import java.util.Arrays;

/**
 * A server of typed values that change their form when they grow, with ends of keys, streams with
 * groups, scans, and a log that is rewritten and restarted from. The document's promises say more.
 */
public final class Compactforms {
    public static final int NONE = -1;
    public static final int ABSENT = 0, LIST = 1, SET = 2, SORTED = 3, STREAM = 4;
    public static final int SMALL = 1, BIG = 2;

    private static final int KEYS = 16, ENTRIES = 40, VALUES = 10000;
    private static final int GROUPS = 3, READERS = 4;
    private static final int CURSORS = 1024;
    private static final int MOST_TICKS = 1000, LAST_CLOCK = 1000000;
    private static final int INFINITE_BITS = 0x7f800000;

    // How many entries a value may have and stay SMALL, by its type, and the greatest in such a LIST.
    private static final int SMALL_LIST = 8, SMALL_SET = 8, SMALL_SORTED = 6, SMALL_STREAM = 16;
    private static final int SMALL_ENTRY = 255;

    // A value has 40 members at most, so a table has never more than 64 buckets.
    private static final int FIRST_BUCKETS = 16, MOST_BUCKETS = 64;

    // Kinds of rows. Calls of the kinds up to ALWAYS_WRITTEN are written whatever they answer,
    // those behind it only if they answer more than 0 (or true).
    private static final int PUSH = 1, POP = 2, RATE = 3, APPEND = 4, ALWAYS_WRITTEN = 4;
    private static final int ADD = 5, TAKE = 6, REMOVE = 7, EXPIRE = 8;
    private static final int READ = 9, DONE = 10, CLAIM = 11;

    // The columns of a row of the log. VALUE_ID tells which value the call was done to.
    private static final int ROWS = 300;
    private static final int KIND = 0, KEY = 1, FIRST = 2, SECOND = 3, THIRD = 4;
    private static final int CLOCK = 5, VALUE_ID = 6, COLUMNS = 7;

    private final Value[] values = new Value[KEYS];
    private Log log = new Log();
    private Log newLog = new Log();
    private int rowsAtRewrite = 0;
    private int keysToWrite = NONE;
    private int clock = 0;
    private int lastSampled = KEYS - 1;
    private int lastValueId = 0;

    public Compactforms() {
        for (int key = 0; key < KEYS; key++) {
            values[key] = new Value();
        }
    }

    // ---- lists, sets, sorted ones

    public int push(int key, int value, boolean atEnd)
            throws IndexOutOfBoundsException, IllegalArgumentException, IllegalStateException {
        needKey(key);
        needValue(value);
        needTypeOrAbsent(key, LIST);
        needRoom(key);
        needRowLeft();
        return call(PUSH, key, value, atEnd ? 1 : 0, 0);
    }

    public int pop(int key, boolean atEnd) throws IndexOutOfBoundsException, IllegalStateException {
        needKey(key);
        needType(key, LIST);
        needRowLeft();
        return call(POP, key, atEnd ? 1 : 0, 0, 0);
    }

    public boolean add(int key, int value)
            throws IndexOutOfBoundsException, IllegalArgumentException, IllegalStateException {
        needKey(key);
        needValue(value);
        needTypeOrAbsent(key, SET);
        if (placeIn(key, value) == NONE) {
            needRoom(key);
        }
        needRowLeft();
        return call(ADD, key, value, 0, 0) > 0;
    }

    public boolean take(int key, int value)
            throws IndexOutOfBoundsException, IllegalArgumentException, IllegalStateException {
        needKey(key);
        needValue(value);
        if (typeNow(key) != SET) {
            needType(key, SORTED);
        }
        needRowLeft();
        return call(TAKE, key, value, 0, 0) > 0;
    }

    public int rate(int key, int member, int bits)
            throws IndexOutOfBoundsException, IllegalArgumentException, IllegalStateException {
        needKey(key);
        needValue(member);
        if ((bits & 0x7fffffff) > INFINITE_BITS) {
            throw new IllegalArgumentException("bits of no number");
        }
        needTypeOrAbsent(key, SORTED);
        if (placeIn(key, member) == NONE) {
            needRoom(key);
        }
        needRowLeft();
        return call(RATE, key, member, bits, 0);
    }

    // ---- streams

    public int append(int key, int value)
            throws IndexOutOfBoundsException, IllegalArgumentException, IllegalStateException {
        needKey(key);
        needValue(value);
        needTypeOrAbsent(key, STREAM);
        needRoom(key);
        needRowLeft();
        return call(APPEND, key, value, 0, 0);
    }

    public int read(int key, int group, int reader) throws IndexOutOfBoundsException, IllegalStateException {
        needKey(key);
        needGroup(group);
        needReader(reader);
        needType(key, STREAM);
        needRowLeft();
        return call(READ, key, group, reader, 0);
    }

    public boolean done(int key, int group, int entry) throws IndexOutOfBoundsException, IllegalStateException {
        needKey(key);
        needGroup(group);
        needType(key, STREAM);
        needRowLeft();
        return call(DONE, key, group, entry, 0) > 0;
    }

    public int claim(int key, int group, int reader, int ticks)
            throws IndexOutOfBoundsException, IllegalArgumentException, IllegalStateException {
        needKey(key);
        needGroup(group);
        needReader(reader);
        needWithin(ticks, 0, MOST_TICKS);
        needType(key, STREAM);
        needRowLeft();
        return call(CLAIM, key, group, reader, ticks);
    }

    public int waiting(int key, int group, int reader) throws IndexOutOfBoundsException {
        needKey(key);
        needGroup(group);
        needReader(reader);
        return typeNow(key) == STREAM ? values[key].groups.countWaiting(group, reader) : 0;
    }

    // ---- keys, the clock

    public boolean remove(int key) throws IndexOutOfBoundsException, IllegalStateException {
        needKey(key);
        needRowLeft();
        return call(REMOVE, key, 0, 0, 0) > 0;
    }

    public boolean expire(int key, int ticks)
            throws IndexOutOfBoundsException, IllegalArgumentException, IllegalStateException {
        needKey(key);
        needWithin(ticks, 1, MOST_TICKS);
        needRowLeft();
        return call(EXPIRE, key, ticks, 0, 0) > 0;
    }

    public int left(int key) throws IndexOutOfBoundsException {
        needKey(key);
        if (!isThere(key)) {
            return 0;
        }
        int end = values[key].end;
        return end == NONE ? NONE : end - clock;
    }

    public int tick(int ticks) throws IllegalArgumentException, IllegalStateException {
        needWithin(ticks, 1, MOST_TICKS);
        if (clock + ticks > LAST_CLOCK) {
            throw new IllegalStateException("the clock would be above its last time");
        }
        clock += ticks;
        return clock;
    }

    public int sample(int many) throws IllegalArgumentException {
        needWithin(many, 1, KEYS);
        int start = lastSampled + 1;
        int sampled = 0;
        int due = 0;
        for (int i = 0; i < KEYS && sampled < many; i++) {
            int key = (start + i) % KEYS;
            Value value = values[key];
            if (value.held && value.end != NONE) {
                sampled++;
                lastSampled = key;
                if (!value.isThere(clock)) {
                    value.held = false;
                    due++;
                }
            }
        }
        return due;
    }

    public int held() {
        int count = 0;
        for (int key = 0; key < KEYS; key++) {
            if (values[key].held) {
                count++;
            }
        }
        return count;
    }

    // ---- the log

    /**
     * Writes all new rows at once, though writeOn() tells them key by key: they tell the keys as they
     * are now, and this way no copy of the values has to be kept while calls go on.
     */
    public int rewrite() {
        newLog.makeEmpty();
        rowsAtRewrite = log.count;
        keysToWrite = 0;
        for (int key = 0; key < KEYS; key++) {
            if (isThere(key)) {
                writeAnew(key);
                keysToWrite++;
            }
        }
        return keysToWrite;
    }

    public int writeOn(int keys) throws IllegalArgumentException, IllegalStateException {
        needWithin(keys, 1, KEYS);
        if (keysToWrite == NONE) {
            throw new IllegalStateException("no rewriting goes on");
        }
        if (keysToWrite > keys) {
            keysToWrite -= keys;
            return keysToWrite;
        }
        newLog.copyRows(log, rowsAtRewrite, log.count - rowsAtRewrite);
        Log old = log;
        log = newLog;
        newLog = old;
        keysToWrite = NONE;
        return 0;
    }

    public int restart() {
        int now = clock;
        keysToWrite = NONE;
        for (int key = 0; key < KEYS; key++) {
            values[key].held = false;
        }
        for (int row = 0; row < log.count; row++) {
            doAgain(row);
        }
        clock = now;
        int there = 0;
        for (int key = 0; key < KEYS; key++) {
            if (isThere(key)) {
                there++;
            }
        }
        return there;
    }

    public int rows() {
        return log.count;
    }

    // ---- questions

    public int typeOf(int key) throws IndexOutOfBoundsException {
        needKey(key);
        return typeNow(key);
    }

    public int formOf(int key) throws IndexOutOfBoundsException {
        needKey(key);
        if (!isThere(key)) {
            return 0;
        }
        return values[key].isSmall() ? SMALL : BIG;
    }

    public int size(int key) throws IndexOutOfBoundsException {
        needKey(key);
        return sizeNow(key);
    }

    public int at(int key, int index) throws IndexOutOfBoundsException {
        needKey(key);
        needIndex(key, index);
        return values[key].form.valueAt(index);
    }

    public int atByPlain(int key, int index) throws IndexOutOfBoundsException {
        needKey(key);
        needIndex(key, index);
        return values[key].plain.valueAt(index);
    }

    public int indexOf(int key, int value) throws IndexOutOfBoundsException, IllegalArgumentException {
        needKey(key);
        needValue(value);
        return placeIn(key, value);
    }

    public float points(int key, int member)
            throws IndexOutOfBoundsException, IllegalArgumentException, IllegalStateException {
        needKey(key);
        needValue(member);
        needType(key, SORTED);
        int rank = placeIn(key, member);
        if (rank == NONE) {
            throw new IllegalStateException("no member");
        }
        return floatOf(values[key].form.bitsAt(rank));
    }

    public int next(int key, int cursor)
            throws IndexOutOfBoundsException, IllegalArgumentException, IllegalStateException {
        needKey(key);
        needWithin(cursor, 0, CURSORS - 1);
        needType(key, SET);
        return values[key].isSmall() ? 0 : values[key].table.cursorBehind(cursor);
    }

    public int scanned(int key, int cursor, int index)
            throws IndexOutOfBoundsException, IllegalArgumentException, IllegalStateException {
        needKey(key);
        needWithin(cursor, 0, CURSORS - 1);
        needType(key, SET);
        Value value = values[key];
        return value.isSmall() ? value.form.valueAt(index) : value.table.memberOfBucket(cursor, index);
    }

    // ---- what calls need

    private static boolean isWithin(int number, int least, int most) {
        return least <= number && number <= most;
    }

    private static boolean isKey(int key) {
        return isWithin(key, 0, KEYS - 1);
    }

    private static boolean isGroup(int group) {
        return isWithin(group, 0, GROUPS - 1);
    }

    private static void needKey(int key) {
        if (!isKey(key)) {
            throw new IndexOutOfBoundsException("no such key");
        }
    }

    private static void needGroup(int group) {
        if (!isGroup(group)) {
            throw new IndexOutOfBoundsException("no such group");
        }
    }

    private static void needReader(int reader) {
        if (!isWithin(reader, 0, READERS - 1)) {
            throw new IndexOutOfBoundsException("no such reader");
        }
    }

    private void needIndex(int key, int index) {
        if (!isWithin(index, 0, sizeNow(key) - 1)) {
            throw new IndexOutOfBoundsException("no such index");
        }
    }

    private static void needValue(int value) {
        needWithin(value, 0, VALUES - 1);
    }

    private static void needWithin(int number, int least, int most) {
        if (!isWithin(number, least, most)) {
            throw new IllegalArgumentException("out of range");
        }
    }

    private void needType(int key, int type) {
        if (typeNow(key) != type) {
            throw new IllegalStateException("no value of this type");
        }
    }

    private void needTypeOrAbsent(int key, int type) {
        if (typeNow(key) != ABSENT) {
            needType(key, type);
        }
    }

    private void needRoom(int key) {
        if (sizeNow(key) >= ENTRIES) {
            throw new IllegalStateException("no room in the value");
        }
    }

    private void needRowLeft() {
        if (log.count >= ROWS) {
            throw new IllegalStateException("the log is full");
        }
    }

    // ---- keys as they are at the clock

    private boolean isThere(int key) {
        return values[key].isThere(clock);
    }

    private int typeNow(int key) {
        return isThere(key) ? values[key].type : ABSENT;
    }

    private int sizeNow(int key) {
        return isThere(key) ? values[key].count() : 0;
    }

    private int placeIn(int key, int value) {
        return isThere(key) ? values[key].form.placeOf(value) : NONE;
    }

    // ---- calls and rows

    /** Does a call that is allowed, and writes it into the log if it is one of those that are written. */
    private int call(int kind, int key, int first, int second, int third) {
        int answer = perform(kind, key, first, second, third);
        if (kind <= ALWAYS_WRITTEN || answer > 0) {
            log.addRow(kind, key, first, second, third);
            log.stampLast(clock, values[key].id);
        }
        return answer;
    }

    /** Does what a row tells, for a call and again at a restart; answers as the call, 1 for true. */
    private int perform(int kind, int key, int first, int second, int third) {
        Value value = values[key];
        switch (kind) {
            case PUSH:
                makeIfAbsent(value, LIST);
                return value.insert(second == 1 ? value.count() : 0, first, 0);
            case POP:
                return value.letGo(first == 1 ? value.count() - 1 : 0);
            case RATE:
                makeIfAbsent(value, SORTED);
                value.dropOut(value.form.placeOf(first));
                int rank = value.plain.countAhead(first, second);
                value.insert(rank, first, second);
                return rank;
            case APPEND:
                makeIfAbsent(value, STREAM);
                return value.insert(value.count(), first, 0);
            case ADD:
                makeIfAbsent(value, SET);
                if (value.form.placeOf(first) != NONE) {
                    return 0;
                }
                return value.insert(value.plain.countAhead(first, 0), first, 0);
            case TAKE:
                return value.letGo(value.form.placeOf(first)) == NONE ? 0 : 1;
            case REMOVE:
                return value.removeIfThere(clock);
            case EXPIRE:
                return value.endIfThere(clock, first);
            case READ:
                return value.groups.giveNext(first, second, value.count(), clock);
            case DONE:
                return value.groups.finish(first, second);
            case CLAIM:
                return value.groups.moveTo(first, second, third, clock);
            default:
                return NONE;
        }
    }

    private void makeIfAbsent(Value value, int type) {
        if (!value.isThere(clock)) {
            lastValueId++;
            value.make(type, lastValueId);
        }
    }

    /** The row gets the id of the value that is made by it now, so that a stream still finds its rows. */
    private void doAgain(int row) {
        int key = log.cell(row, KEY);
        if (!isKey(key)) {
            return;
        }
        clock = log.cell(row, CLOCK);
        perform(log.cell(row, KIND), key, log.cell(row, FIRST), log.cell(row, SECOND), log.cell(row, THIRD));
        log.stamp(row, clock, values[key].id);
    }

    private void writeAnew(int key) {
        Value value = values[key];
        if (value.type == STREAM) {
            copyStreamRows(key);
        } else {
            int kind = value.type == LIST ? PUSH : value.type == SET ? ADD : RATE;
            for (int i = 0; i < value.count(); i++) {
                int second = value.type == LIST ? 1 : value.plain.bitsAt(i);
                newLog.addRow(kind, key, value.plain.valueAt(i), second, 0);
                newLog.stampLast(clock, value.id);
            }
        }
        if (value.end != NONE) {
            newLog.addRow(EXPIRE, key, value.end - clock, 0, 0);
            newLog.stampLast(clock, value.id);
        }
    }

    /** All calls that made a stream what it is are in the log still, as rewriting leaves them there. */
    private void copyStreamRows(int key) {
        for (int row = 0; row < log.count; row++) {
            int kind = log.cell(row, KIND);
            boolean ofStream = kind == APPEND || kind == READ || kind == DONE || kind == CLAIM;
            if (ofStream && log.cell(row, KEY) == key && log.cell(row, VALUE_ID) == values[key].id) {
                newLog.copyRows(log, row, 1);
            }
        }
    }

    /** A float from its bits, by steps that are all exact in a double; too large a one becomes infinite. */
    private static float floatOf(int bits) {
        int exponent = (bits >> 23) & 255;
        int fraction = bits & 0x7fffff;
        double size = exponent == 0 ? fraction : fraction + 0x800000;
        int doublings = (exponent == 0 ? 1 : exponent) - 150;
        for (int i = 0; i < doublings; i++) {
            size = size * 2.0;
        }
        for (int i = doublings; i < 0; i++) {
            size = size * 0.5;
        }
        return (float) (bits < 0 ? -size : size);
    }

    // ---- classes

    /** What a key holds. Its entries stand twice: in the form that it has, and in the plain list. */
    private static final class Value {
        private boolean held = false;
        private int type = ABSENT;
        private int end = NONE;
        private int id = 0;
        private final Row small = new Row(SMALL_STREAM);
        private final Chain chain = new Chain();
        private final Table table = new Table();
        private final Row plain = new Row(ENTRIES);
        private final Groups groups = new Groups();
        private Form form = small;

        boolean isThere(int now) {
            return held && (end == NONE || now < end);
        }

        boolean isSmall() {
            return form == small;
        }

        int count() {
            return plain.count;
        }

        void make(int newType, int newId) {
            held = true;
            type = newType;
            end = NONE;
            id = newId;
            form = small;
            small.makeEmpty();
            plain.makeEmpty();
            groups.makeEmpty();
        }

        /** Answers how many entries there are then. */
        int insert(int index, int value, int bits) {
            if (form == small && outgrowsSmall(value)) {
                becomeBig();
            }
            form.putIn(index, value, bits);
            plain.putIn(index, value, bits);
            return plain.count;
        }

        private boolean outgrowsSmall(int value) {
            int count = plain.count + 1;
            switch (type) {
                case LIST:
                    return count > SMALL_LIST || value > SMALL_ENTRY;
                case SET:
                    return count > SMALL_SET;
                case SORTED:
                    return count > SMALL_SORTED;
                default:
                    return count > SMALL_STREAM;
            }
        }

        private void becomeBig() {
            form = type == SET ? table : chain;
            form.makeEmpty();
            for (int i = 0; i < small.count; i++) {
                form.putIn(i, small.valueAt(i), small.bitsAt(i));
            }
        }

        void dropOut(int index) {
            int value = plain.valueAt(index);
            form.dropOut(index, value);
            plain.dropOut(index, value);
        }

        /** Drops an entry and answers it; a value without entries is removed at once. */
        int letGo(int index) {
            int value = form.valueAt(index);
            dropOut(index);
            if (plain.count == 0) {
                held = false;
            }
            return value;
        }

        int removeIfThere(int now) {
            if (!isThere(now)) {
                return 0;
            }
            held = false;
            return 1;
        }

        int endIfThere(int now, int ticks) {
            if (!isThere(now)) {
                return 0;
            }
            end = now + ticks;
            return 1;
        }
    }

    /**
     * A way to keep entries in their order. Bits are those of points, 0 where there are none. An index
     * that is not there answers NONE (bits: 0) and changes nothing.
     */
    private abstract static class Form {
        abstract void makeEmpty();

        abstract int valueAt(int index);

        abstract int bitsAt(int index);

        abstract int placeOf(int value);

        abstract void putIn(int index, int value, int bits);

        abstract void dropOut(int index, int value);
    }

    /** Entries packed side by side: the form of what is SMALL, and the plain list. */
    private static final class Row extends Form {
        private final int[] entries;
        private final int[] points;
        private int count = 0;

        Row(int room) {
            int length = room < 0 ? 0 : room;
            entries = new int[length];
            points = new int[length];
        }

        void makeEmpty() {
            count = 0;
        }

        int valueAt(int index) {
            return index >= 0 && index < count ? entries[index] : NONE;
        }

        int bitsAt(int index) {
            return index >= 0 && index < count ? points[index] : 0;
        }

        int placeOf(int value) {
            for (int i = 0; i < count; i++) {
                if (entries[i] == value) {
                    return i;
                }
            }
            return NONE;
        }

        void putIn(int index, int value, int bits) {
            if (index < 0 || index > count || count >= entries.length) {
                return;
            }
            System.arraycopy(entries, index, entries, index + 1, count - index);
            System.arraycopy(points, index, points, index + 1, count - index);
            entries[index] = value;
            points[index] = bits;
            count++;
        }

        void dropOut(int index, int value) {
            if (index < 0 || index >= count) {
                return;
            }
            count--;
            System.arraycopy(entries, index + 1, entries, index, count - index);
            System.arraycopy(points, index + 1, points, index, count - index);
        }

        /** How many of a row in this order stand ahead: by rising points, of the same points by rising members. */
        int countAhead(int value, int bits) {
            int place = orderOf(bits);
            for (int i = 0; i < count; i++) {
                int order = Integer.compare(orderOf(points[i]), place);
                if (order > 0 || order == 0 && entries[i] >= value) {
                    return i;
                }
            }
            return count;
        }

        /** Bits of floats rise as the floats do, but those below 0 fall: turned over they rise, too. */
        private static int orderOf(int bits) {
            return bits < 0 ? bits ^ 0x7fffffff : bits;
        }
    }

    /** Nodes that each know the next one: the form of a BIG LIST, SORTED or STREAM. */
    private static final class Chain extends Form {
        private final int[] entries = new int[ENTRIES];
        private final int[] points = new int[ENTRIES];
        private final int[] nexts = new int[ENTRIES];
        private int head = NONE;
        private int spare = NONE;

        void makeEmpty() {
            head = NONE;
            spare = 0;
            for (int i = 0; i < ENTRIES; i++) {
                nexts[i] = i + 1 < ENTRIES ? i + 1 : NONE;
            }
        }

        private int nodeAt(int index) {
            int node = index < 0 ? NONE : head;
            for (int i = 0; i < index && node != NONE; i++) {
                node = nexts[node];
            }
            return node;
        }

        int valueAt(int index) {
            int node = nodeAt(index);
            return node == NONE ? NONE : entries[node];
        }

        int bitsAt(int index) {
            int node = nodeAt(index);
            return node == NONE ? 0 : points[node];
        }

        int placeOf(int value) {
            int node = head;
            for (int i = 0; i < ENTRIES && node != NONE; i++) {
                if (entries[node] == value) {
                    return i;
                }
                node = nexts[node];
            }
            return NONE;
        }

        void putIn(int index, int value, int bits) {
            int ahead = nodeAt(index - 1);
            int node = spare;
            if (node == NONE || index != 0 && ahead == NONE) {
                return;
            }
            spare = nexts[node];
            entries[node] = value;
            points[node] = bits;
            if (ahead == NONE) {
                nexts[node] = head;
                head = node;
            } else {
                nexts[node] = nexts[ahead];
                nexts[ahead] = node;
            }
        }

        void dropOut(int index, int value) {
            int node = nodeAt(index);
            if (node == NONE) {
                return;
            }
            int ahead = nodeAt(index - 1);
            if (ahead == NONE) {
                head = nexts[node];
            } else {
                nexts[ahead] = nexts[node];
            }
            nexts[node] = spare;
            spare = node;
        }
    }

    /** Buckets, each with a chain of its members by rising numbers: the form of a BIG SET. */
    private static final class Table extends Form {
        private final int[] heads = new int[MOST_BUCKETS];
        private final int[] members = new int[ENTRIES];
        private final int[] nexts = new int[ENTRIES];
        private int buckets = FIRST_BUCKETS;
        private int count = 0;

        void makeEmpty() {
            buckets = FIRST_BUCKETS;
            count = 0;
            Arrays.fill(heads, NONE);
            Arrays.fill(members, NONE);
        }

        private int bucketOf(int member) {
            return (193 * member + member / 32) & (buckets - 1);
        }

        private int smallestAbove(int low) {
            int smallest = NONE;
            for (int i = 0; i < ENTRIES; i++) {
                if (members[i] > low && (smallest == NONE || members[i] < smallest)) {
                    smallest = members[i];
                }
            }
            return smallest;
        }

        int valueAt(int index) {
            if (index < 0 || index >= count) {
                return NONE;
            }
            int member = smallestAbove(NONE);
            for (int i = 0; i < index; i++) {
                member = smallestAbove(member);
            }
            return member;
        }

        int bitsAt(int index) {
            return 0;
        }

        int placeOf(int value) {
            int slot = value < 0 ? NONE : heads[bucketOf(value)];
            for (int i = 0; i < ENTRIES && slot != NONE && members[slot] != value; i++) {
                slot = nexts[slot];
            }
            return slot == NONE ? NONE : countBelow(value);
        }

        private int countBelow(int value) {
            int below = 0;
            for (int i = 0; i < ENTRIES; i++) {
                if (members[i] != NONE && members[i] < value) {
                    below++;
                }
            }
            return below;
        }

        /** The order is that of the members, so no index is needed. */
        void putIn(int index, int value, int bits) {
            int slot = freeSlot();
            if (slot == NONE || value < 0) {
                return;
            }
            members[slot] = value;
            count++;
            if (count <= buckets || buckets >= MOST_BUCKETS) {
                link(slot, bucketOf(value));
                return;
            }
            buckets *= 2;
            Arrays.fill(heads, NONE);
            for (int i = 0; i < ENTRIES; i++) {
                if (members[i] != NONE) {
                    link(i, bucketOf(members[i]));
                }
            }
        }

        private int freeSlot() {
            for (int i = 0; i < ENTRIES; i++) {
                if (members[i] == NONE) {
                    return i;
                }
            }
            return NONE;
        }

        private void link(int slot, int bucket) {
            int ahead = NONE;
            int behind = heads[bucket];
            for (int i = 0; i < ENTRIES && behind != NONE && members[behind] < members[slot]; i++) {
                ahead = behind;
                behind = nexts[behind];
            }
            nexts[slot] = behind;
            if (ahead == NONE) {
                heads[bucket] = slot;
            } else {
                nexts[ahead] = slot;
            }
        }

        void dropOut(int index, int value) {
            if (value < 0) {
                return;
            }
            int bucket = bucketOf(value);
            int ahead = NONE;
            int slot = heads[bucket];
            for (int i = 0; i < ENTRIES && slot != NONE && members[slot] != value; i++) {
                ahead = slot;
                slot = nexts[slot];
            }
            if (slot == NONE) {
                return;
            }
            if (ahead == NONE) {
                heads[bucket] = nexts[slot];
            } else {
                nexts[ahead] = nexts[slot];
            }
            members[slot] = NONE;
            count--;
        }

        int cursorBehind(int cursor) {
            int backwards = readBackwards(cursor & (buckets - 1));
            return readBackwards((backwards + 1) & (buckets - 1));
        }

        private int readBackwards(int number) {
            int rest = number;
            int backwards = 0;
            for (int bit = 1; bit < MOST_BUCKETS && bit < buckets; bit *= 2) {
                backwards = backwards * 2 + (rest & 1);
                rest = rest >> 1;
            }
            return backwards;
        }

        int memberOfBucket(int cursor, int index) {
            int slot = index < 0 ? NONE : heads[cursor & (buckets - 1)];
            for (int i = 0; i < index && slot != NONE; i++) {
                slot = nexts[slot];
            }
            return slot == NONE ? NONE : members[slot];
        }
    }

    /** The groups of a stream: their places, and which entries wait for which reader since when. */
    private static final class Groups {
        private final int[] places = new int[GROUPS];
        // For each entry of each group the time since when it waits times READERS, and its reader.
        private final int[] waits = new int[GROUPS * ENTRIES];

        void makeEmpty() {
            Arrays.fill(places, 0);
            Arrays.fill(waits, NONE);
        }

        int giveNext(int group, int reader, int entries, int now) {
            if (!isGroup(group)) {
                return NONE;
            }
            int entry = places[group] + 1;
            if (entry > entries || !isWithin(entry, 1, ENTRIES)) {
                return NONE;
            }
            places[group] = entry;
            waits[group * ENTRIES + entry - 1] = now * READERS + reader;
            return entry;
        }

        /** Answers 1 if the entry waited, otherwise 0. */
        int finish(int group, int entry) {
            if (!isGroup(group) || !isWithin(entry, 1, ENTRIES)) {
                return 0;
            }
            int place = group * ENTRIES + entry - 1;
            boolean waited = waits[place] != NONE;
            waits[place] = NONE;
            return waited ? 1 : 0;
        }

        int moveTo(int group, int reader, int ticks, int now) {
            if (!isGroup(group)) {
                return 0;
            }
            int moved = 0;
            for (int i = group * ENTRIES; i < (group + 1) * ENTRIES; i++) {
                boolean forAnother = waits[i] != NONE && waits[i] % READERS != reader;
                if (forAnother && now - waits[i] / READERS >= ticks) {
                    waits[i] = now * READERS + reader;
                    moved++;
                }
            }
            return moved;
        }

        int countWaiting(int group, int reader) {
            if (!isGroup(group)) {
                return 0;
            }
            int count = 0;
            for (int i = group * ENTRIES; i < (group + 1) * ENTRIES; i++) {
                if (waits[i] != NONE && waits[i] % READERS == reader) {
                    count++;
                }
            }
            return count;
        }
    }

    /** Rows of calls, one behind the other. */
    private static final class Log {
        private final int[] cells = new int[ROWS * COLUMNS];
        private int count = 0;

        void makeEmpty() {
            count = 0;
        }

        int cell(int row, int column) {
            return row >= 0 && row < count ? cells[row * COLUMNS + column] : 0;
        }

        void addRow(int kind, int key, int first, int second, int third) {
            if (count >= ROWS) {
                return;
            }
            int start = count * COLUMNS;
            cells[start + KIND] = kind;
            cells[start + KEY] = key;
            cells[start + FIRST] = first;
            cells[start + SECOND] = second;
            cells[start + THIRD] = third;
            count++;
        }

        void stampLast(int clock, int valueId) {
            stamp(count - 1, clock, valueId);
        }

        void stamp(int row, int clock, int valueId) {
            if (row < 0 || row >= count) {
                return;
            }
            cells[row * COLUMNS + CLOCK] = clock;
            cells[row * COLUMNS + VALUE_ID] = valueId;
        }

        void copyRows(Log from, int row, int many) {
            if (row < 0 || many < 0 || many > from.count - row || many > ROWS - count) {
                return;
            }
            System.arraycopy(from.cells, row * COLUMNS, cells, count * COLUMNS, many * COLUMNS);
            count += many;
        }
    }
}
