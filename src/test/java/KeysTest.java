/** "Keys and the clock": each clause of the document at its boundaries. */
public final class KeysTest {
    private static final int NONE = Compactforms.NONE, ABSENT = Compactforms.ABSENT, LIST = Compactforms.LIST;
    private static final int SET = Compactforms.SET, SORTED = Compactforms.SORTED, STREAM = Compactforms.STREAM;
    private static final int SMALL = Compactforms.SMALL, BIG = Compactforms.BIG;
    private static final String SECTION = "Keys and the clock";

    private static final Checks checks = new Checks("KeysTest");

    public static void main(String[] args) {
        keys();
        clock();
        typesAndEnds();
        due();
        dueIsNotThere();
        dueIsHeld();
        dueIsHeldUntilAValueIsMade();
        madeFirst();
        madeAnewWithoutAnythingOfTheOld();
        madeAnewThoughBig();
        withoutEntries();
        withoutEntriesThoughBig();
        streamsStay();
        values();
        atMost40();
        atMost40Again();
        members40();
        checks.allSaid(SECTION, SECTION);
        checks.finish();
    }

    private static void keys() {
        checks.says(SECTION, "The keys are 0 to 15.");
        Counted x = new Counted();
        for (int key = 0; key <= 15; key++) {
            int k = key;
            checks.is("push to " + key, 1, () -> x.push(k, 100 + k, true));
            checks.is("held", key + 1, () -> x.held());
        }
        for (int key = 0; key <= 15; key++) {
            int k = key;
            checks.is("what " + key + " has", "" + (100 + key), () -> x.entries(k));
        }
        checks.throwsIndex("push to -1", () -> x.push(-1, 1, true));
        checks.throwsIndex("push to 16", () -> x.push(16, 1, true));
        checks.is("held", 16, () -> x.held());
    }

    private static void clock() {
        checks.says(SECTION, "The clock is 0 at first.");
        Counted x = new Counted();
        x.append(0, 1);
        x.read(0, 0, 0);
        x.push(1, 1, true);
        x.expire(1, 1000);
        checks.is("the clock behind the first tick", 1000, () -> x.tick(1000));
        checks.is("what ended at 1000", ABSENT, () -> x.typeOf(1));
        checks.is("what waits since 0", 1, () -> x.claim(0, 0, 1, 1000));
    }

    private static void typesAndEnds() {
        checks.says(SECTION, "A key that is there has a value of a type: LIST, SET, SORTED or STREAM;");
        Counted x = new Counted();
        for (int type = LIST; type <= STREAM; type++) {
            int t = type;
            x.fill(type, type, 1);
            checks.is("type", type, () -> x.typeOf(t));
        }
        checks.says(SECTION, "it may have an end, a time.");
        for (int type = LIST; type <= STREAM; type++) {
            int t = type;
            checks.is("no end", NONE, () -> x.left(t));
            x.expire(type, type);
            checks.is("an end", type, () -> x.left(t));
        }
        for (int time = 1; time <= 4; time++) {
            x.tick(1);
            for (int type = LIST; type <= STREAM; type++) {
                int t = type;
                checks.is("left of " + type + " at " + time, Math.max(0, type - time), () -> x.left(t));
            }
        }
    }

    private static void due() {
        checks.says(SECTION, "A key is due if it has an end and the clock is there or behind it;");
        for (int type = LIST; type <= STREAM; type++) {
            Counted x = new Counted();
            x.fill(type, 0, 2);
            x.fill(type, 1, 2);
            x.expire(0, 5);
            x.tick(4);
            checks.is("one tick ahead of the end", type, () -> x.typeOf(0));
            checks.is("its size", 2, () -> x.size(0));
            x.tick(1);
            checks.is("at the end", ABSENT, () -> x.typeOf(0));
            x.tick(1);
            checks.is("behind the end", ABSENT, () -> x.typeOf(0));
            for (int i = 0; i < 300; i++) {
                x.tick(1000);
            }
            checks.is("without an end", type, () -> x.typeOf(1));
            checks.is("far behind the end", ABSENT, () -> x.typeOf(0));
        }
    }

    private static Counted withDue(int type) {
        Counted x = new Counted();
        x.fill(type, 7, 2);
        if (type == STREAM) {
            x.read(7, 0, 0);
        }
        x.expire(7, 1);
        x.tick(1);
        return x;
    }

    private static void dueIsNotThere() {
        checks.says(SECTION, "a key that is due is not there any more, but it is held, until it is sampled");
        for (int type = LIST; type <= STREAM; type++) {
            Counted x = withDue(type);
            int rows = x.rows();
            checks.is("type", ABSENT, () -> x.typeOf(7));
            checks.is("form", 0, () -> x.formOf(7));
            checks.is("size", 0, () -> x.size(7));
            checks.is("left", 0, () -> x.left(7));
            checks.throwsIndex("at", () -> x.at(7, 0));
            checks.throwsIndex("atByPlain", () -> x.atByPlain(7, 0));
            checks.is("indexOf", NONE, () -> x.indexOf(7, 0));
            checks.is("waiting", 0, () -> x.waiting(7, 0, 0));
            checks.throwsState("points", () -> x.points(7, 0));
            checks.throwsState("next", () -> x.next(7, 0));
            checks.throwsState("scanned", () -> x.scanned(7, 0, 0));
            checks.throwsState("pop", () -> x.pop(7, true));
            checks.throwsState("take", () -> x.take(7, 0));
            checks.throwsState("read", () -> x.read(7, 0, 0));
            checks.throwsState("done", () -> x.done(7, 0, 1));
            checks.throwsState("claim", () -> x.claim(7, 0, 1, 0));
            checks.is("remove", false, () -> x.remove(7));
            checks.is("expire", false, () -> x.expire(7, 1000));
            checks.is("rewrite", 0, () -> x.rewrite());
            checks.is("rows", rows, () -> x.rows());
            checks.is("held", 1, () -> x.held());
        }
    }

    private static void dueIsHeld() {
        checks.says(SECTION, "until it is sampled");
        for (int type = LIST; type <= STREAM; type++) {
            Counted x = withDue(type);
            x.tick(1000);
            checks.is("held", 1, () -> x.held());
            checks.is("sample", 1, () -> x.sample(1));
            checks.is("held behind it", 0, () -> x.held());
            checks.is("sample again", 0, () -> x.sample(16));
        }
    }

    private static void dueIsHeldUntilAValueIsMade() {
        checks.says(SECTION, "or a new value is made for it.");
        for (int type = LIST; type <= STREAM; type++) {
            for (int next = LIST; next <= STREAM; next++) {
                int n = next;
                Counted x = withDue(type);
                x.fill(next, 7, 1);
                checks.is("held", 1, () -> x.held());
                checks.is("type", n, () -> x.typeOf(7));
                checks.is("size", 1, () -> x.size(7));
                checks.is("due ones", 0, () -> x.sample(16));
                checks.is("held behind sampling", 1, () -> x.held());
            }
        }
    }

    /** A key that is not there: never made, removed, without entries, due, or due and sampled. */
    private static Counted notThere(int way) {
        Counted x = new Counted();
        if (way > 0) {
            x.push(3, 9, true);
            x.expire(3, 1);
        }
        if (way == 1) {
            x.remove(3);
        } else if (way == 2) {
            x.pop(3, true);
        } else if (way >= 3) {
            x.tick(1);
        }
        if (way == 4) {
            x.sample(16);
        }
        return x;
    }

    private static void madeFirst() {
        checks.says(SECTION, "A value is made by the first push(), add(), rate() or append() for a key that is not there");
        for (int way = 0; way <= 4; way++) {
            Counted list = notThere(way);
            checks.is("push", 1, () -> list.push(3, 5, false));
            checks.is("push again", 2, () -> list.push(3, 5, false));
            Counted set = notThere(way);
            checks.is("add", true, () -> set.add(3, 5));
            checks.is("add again", false, () -> set.add(3, 5));
            Counted sorted = notThere(way);
            checks.is("rate", 0, () -> sorted.rate(3, 5, Bits.ONE));
            checks.is("rate of another", 1, () -> sorted.rate(3, 6, Bits.ONE));
            Counted stream = notThere(way);
            checks.is("append", 1, () -> stream.append(3, 5));
            checks.is("append again", 2, () -> stream.append(3, 5));
        }
        checks.says(SECTION, "without an end.");
        for (int way = 0; way <= 4; way++) {
            for (int type = LIST; type <= STREAM; type++) {
                Counted x = notThere(way);
                x.fill(type, 3, 1);
                checks.is("its end, made in way " + way, NONE, () -> x.left(3));
                x.tick(1000);
                checks.is("its size later", 1, () -> x.size(3));
            }
        }
    }

    private static void madeAnewWithoutAnythingOfTheOld() {
        checks.says(SECTION, "A value is made by the first push()");
        for (boolean ended : new boolean[] {false, true}) {
            Counted x = new Counted();
            for (int type = LIST; type <= STREAM; type++) {
                x.fill(type, type, 20);
                x.expire(type, 1);
            }
            x.read(STREAM, 2, 3);
            x.read(STREAM, 2, 3);
            if (ended) {
                x.tick(1);
            }
            for (int type = LIST; type <= STREAM && !ended; type++) {
                x.remove(type);
            }
            for (int type = LIST; type <= STREAM; type++) {
                int t = type;
                x.fill(type, type, 1);
                checks.is("its form", SMALL, () -> x.formOf(t));
                checks.is("its entries", "0", () -> x.entries(t));
                checks.is("what is no more", NONE, () -> x.indexOf(t, 1));
            }
            checks.is("what waits", "0 0 0 0", () -> x.waits(STREAM, 2));
            checks.is("read", 1, () -> x.read(STREAM, 2, 3));
            x.fill(SET, SET, 9);
            checks.is("next in 16 buckets", 8, () -> x.next(SET, 0));
        }
    }

    private static void madeAnewThoughBig() {
        checks.says(SECTION, "or a new value is made for it.");
        for (int type = LIST; type <= STREAM; type++) {
            for (int way = 0; way < 3; way++) {
                Counted x = new Counted();
                x.fill(type, 0, 20);
                for (int i = 0; i < 20 && type == LIST; i++) {
                    x.push(0, 20 + i, false);
                }
                if (way == 0) {
                    x.remove(0);
                } else {
                    x.expire(0, 1);
                    x.tick(1);
                }
                if (way == 2) {
                    x.sample(16);
                }
                StringBuilder due = new StringBuilder();
                for (int i = 0; i < 17; i++) {
                    grow(x, type, 1000 + i);
                    due.append(1000 + i).append(i < 16 ? " " : "");
                }
                checks.is("its form", BIG, () -> x.formOf(0));
                checks.is("its entries", due.toString(), () -> x.entries(0));
                for (int old = 0; old < 40; old++) {
                    int o = old;
                    checks.is("the place of an old one", NONE, () -> x.indexOf(0, o));
                }
            }
        }
    }

    private static void withoutEntries() {
        checks.says(SECTION, "A LIST, SET or SORTED without entries is removed at once, so it is not there.");
        for (boolean atEnd : new boolean[] {false, true}) {
            for (int type = LIST; type <= SORTED; type++) {
                Counted x = new Counted();
                x.fill(type, 0, 2);
                x.expire(0, 1000);
                letGo(x, type, atEnd, 0);
                checks.is("with one entry", type, () -> x.typeOf(0));
                checks.is("with one entry, held", 1, () -> x.held());
                int rows = x.rows();
                letGo(x, type, atEnd, 1);
                checks.is("rows", rows + 1, () -> x.rows());
                gone(x);
            }
        }
    }

    private static void letGo(Counted x, int type, boolean atEnd, int nth) {
        if (type == LIST) {
            x.pop(0, atEnd);
        } else {
            x.take(0, atEnd ? 1 - nth : nth);
        }
    }

    private static void gone(Counted x) {
        checks.is("type", ABSENT, () -> x.typeOf(0));
        checks.is("form", 0, () -> x.formOf(0));
        checks.is("size", 0, () -> x.size(0));
        checks.is("left", 0, () -> x.left(0));
        checks.throwsIndex("at", () -> x.at(0, 0));
        checks.is("held", 0, () -> x.held());
        checks.is("remove", false, () -> x.remove(0));
        checks.is("expire", false, () -> x.expire(0, 1));
        checks.throwsState("pop", () -> x.pop(0, true));
        checks.throwsState("take", () -> x.take(0, 0));
        checks.is("another type", 1, () -> x.append(0, 1));
        checks.is("its end", NONE, () -> x.left(0));
    }

    private static void withoutEntriesThoughBig() {
        checks.says(SECTION, "is removed at once");
        for (int type = LIST; type <= SORTED; type++) {
            Counted x = new Counted();
            x.fill(type, 0, 40);
            checks.is("form", BIG, () -> x.formOf(0));
            for (int i = 0; i < 40; i++) {
                int left = 40 - i;
                checks.is("size", left, () -> x.size(0));
                if (type == LIST) {
                    x.pop(0, i % 2 == 0);
                } else {
                    x.take(0, (i * 7) % 40);
                }
            }
            gone(x);
        }
    }

    private static void streamsStay() {
        checks.says(SECTION, "A LIST, SET or SORTED without entries");
        Counted x = new Counted();
        x.append(0, 1);
        x.read(0, 0, 0);
        x.done(0, 0, 1);
        checks.is("a stream whose entries are done", STREAM, () -> x.typeOf(0));
        checks.is("its size", 1, () -> x.size(0));
        checks.is("held", 1, () -> x.held());
    }

    private static void values() {
        checks.says(SECTION, "Values and members are 0 to 9999.");
        Counted x = new Counted();
        for (int value : new int[] {0, 9999}) {
            checks.answers("push", () -> x.push(LIST, value, true));
            checks.answers("add", () -> x.add(SET, value));
            checks.answers("rate", () -> x.rate(SORTED, value, Bits.ONE));
            checks.answers("append", () -> x.append(STREAM, value));
        }
        for (int type = LIST; type <= STREAM; type++) {
            int t = type;
            checks.is("entries", "0 9999", () -> x.entries(t));
            checks.is("place of 0", 0, () -> x.indexOf(t, 0));
            checks.is("place of 9999", 1, () -> x.indexOf(t, 9999));
        }
        checks.is("points of 0", 1f, () -> x.points(SORTED, 0));
        checks.is("points of 9999", 1f, () -> x.points(SORTED, 9999));
        checks.is("take of 0", true, () -> x.take(SET, 0));
        checks.is("take of 9999", true, () -> x.take(SET, 9999));
        for (int value : new int[] {-1, 10000}) {
            checks.throwsArgument("push", () -> x.push(LIST, value, true));
            checks.throwsArgument("add", () -> x.add(SET, value));
            checks.throwsArgument("take", () -> x.take(SORTED, value));
            checks.throwsArgument("rate", () -> x.rate(SORTED, value, Bits.ONE));
            checks.throwsArgument("append", () -> x.append(STREAM, value));
            checks.throwsArgument("indexOf", () -> x.indexOf(LIST, value));
            checks.throwsArgument("points", () -> x.points(SORTED, value));
        }
    }

    private static Object grow(Counted x, int type, int value) {
        switch (type) {
            case LIST:
                return x.push(0, value, true);
            case SET:
                return x.add(0, value);
            case SORTED:
                return x.rate(0, value, Bits.ONE);
            default:
                return x.append(0, value);
        }
    }

    private static void atMost40() {
        checks.says(SECTION, "At most 40 entries or members are in one value.");
        for (int type = LIST; type <= STREAM; type++) {
            int t = type;
            Counted x = new Counted();
            x.fill(type, 0, 39);
            checks.answers("the 40th of type " + type, () -> grow(x, t, 50));
            checks.is("size", 40, () -> x.size(0));
            checks.is("the last one", 50, () -> x.at(0, 39));
            int rows = x.rows();
            checks.throwsState("the 41st of type " + type, () -> grow(x, t, 51));
            checks.is("size", 40, () -> x.size(0));
            checks.is("rows", rows, () -> x.rows());
            checks.throwsIndex("at 40", () -> x.at(0, 40));
        }
    }

    private static void atMost40Again() {
        checks.says(SECTION, "At most 40 entries");
        for (int type = LIST; type <= SORTED; type++) {
            int t = type;
            Counted x = new Counted();
            x.fill(type, 0, 40);
            if (type == LIST) {
                x.pop(0, false);
            } else {
                x.take(0, 0);
            }
            checks.answers("the 40th again", () -> grow(x, t, 50));
            checks.is("size", 40, () -> x.size(0));
            checks.throwsState("the 41st", () -> grow(x, t, 51));
        }
        Counted x = new Counted();
        x.fill(LIST, 1, 40);
        x.fill(LIST, 2, 40);
        checks.is("40 in each value", "40 40", () -> x.size(1) + " " + x.size(2));
    }

    private static void members40() {
        checks.says("Promise 4:", "40 members and not this one");
        Counted x = new Counted();
        x.fill(SET, 0, 40);
        for (int member : new int[] {0, 20, 39}) {
            checks.is("add of a member of 40", false, () -> x.add(0, member));
        }
        checks.throwsState("add of another", () -> x.add(0, 40));
        checks.says("Promise 6:", "40 members and not this one");
        Counted y = new Counted();
        y.fill(SORTED, 0, 40);
        checks.is("rate of the first of 40 to the end", 39, () -> y.rate(0, 0, Bits.TWO));
        checks.is("rate of the last of 40 to the beginning", 0, () -> y.rate(0, 39, Bits.ZERO));
        checks.is("rate of one of 40 to what it had", 20, () -> y.rate(0, 20, Bits.ONE));
        checks.is("size", 40, () -> y.size(0));
        checks.throwsState("rate of another", () -> y.rate(0, 40, Bits.ONE));
    }
}
