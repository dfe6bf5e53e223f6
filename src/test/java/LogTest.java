/** "The log": each clause of the document at its boundaries. */
public final class LogTest {
    private static final int NONE = Compactforms.NONE, ABSENT = Compactforms.ABSENT, LIST = Compactforms.LIST;
    private static final int SET = Compactforms.SET, SORTED = Compactforms.SORTED, STREAM = Compactforms.STREAM;
    private static final int SMALL = Compactforms.SMALL, BIG = Compactforms.BIG;
    private static final String SECTION = "The log";

    private interface Doing {
        Object on(Counted x);
    }

    private static final Checks checks = new Checks("LogTest");

    public static void main(String[] args) {
        alwaysWritten();
        writtenIfTrue();
        writtenIfGot();
        notWritten();
        clockOfThen();
        atMost300();
        throwsAt300();
        throwsAt300WhileRewriting();
        room300Again();
        beginsWithWhatIsThere();
        beginsAsTheyAreThen();
        dueWhileRewriting();
        listRows();
        setRows();
        sortedRows();
        streamRows();
        streamRowsAnew();
        streamClocks();
        endRows();
        clockOfTheBeginning();
        becomesTheNewRows();
        becomesTheNewRowsWhenFull();
        inPlaceOfAnother();
        restartHoldsNone();
        restartGivesUp();
        restartAsIfTheClock();
        restartMakesAnew();
        restartLeaves();
        restartOfAnEmptyLog();
        restartOfAFullLog();
        checks.allSaid(SECTION, SECTION);
        checks.finish();
    }

    /** A key of each type, and under 4 a stream that group 1 has read to its end: 8 rows. */
    private static Counted some() {
        Counted x = new Counted();
        x.push(0, 5, true);
        x.add(1, 5);
        x.rate(2, 5, Bits.ONE);
        x.append(3, 5);
        x.append(3, 6);
        x.read(3, 0, 0);
        x.append(4, 1);
        x.read(4, 1, 0);
        return x;
    }

    private static void adds(int due, String what, Object answer, Doing doing) {
        Counted x = some();
        checks.is(what, answer, () -> doing.on(x));
        checks.is("rows behind " + what, 8 + due, () -> x.rows());
    }

    // ---- what is written

    private static void alwaysWritten() {
        checks.says(SECTION, "push(), pop(), rate(), append();");
        adds(1, "push", 2, x -> x.push(0, 6, true));
        adds(1, "push that makes", 1, x -> x.push(9, 6, true));
        adds(1, "pop", 5, x -> x.pop(0, true));
        adds(1, "rate", 1, x -> x.rate(2, 6, Bits.TWO));
        adds(1, "rate to the same", 0, x -> x.rate(2, 5, Bits.ONE));
        adds(1, "append", 3, x -> x.append(3, 1));
        Counted x = new Counted();
        x.push(0, 0, true);
        checks.is("pop of a 0", 0, () -> x.pop(0, true));
        checks.is("rows behind a pop of a 0", 2, () -> x.rows());
    }

    private static void writtenIfTrue() {
        checks.says(SECTION, "add(), take(), remove(), expire() and done() that return true;");
        adds(1, "add", true, x -> x.add(1, 0));
        adds(0, "add of a member", false, x -> x.add(1, 5));
        adds(1, "take of a set", true, x -> x.take(1, 5));
        adds(0, "take of no member", false, x -> x.take(1, 6));
        adds(1, "take of a sorted one", true, x -> x.take(2, 5));
        adds(0, "take of no member of a sorted one", false, x -> x.take(2, 6));
        adds(1, "remove", true, x -> x.remove(0));
        adds(0, "remove of no key", false, x -> x.remove(9));
        adds(1, "expire", true, x -> x.expire(0, 1));
        adds(0, "expire of no key", false, x -> x.expire(9, 1));
        adds(1, "done", true, x -> x.done(3, 0, 1));
        adds(0, "done of what does not wait", false, x -> x.done(3, 0, 2));
        Counted x = new Counted();
        x.add(0, 0);
        x.add(0, 1);
        checks.is("take of 0", true, () -> x.take(0, 0));
        checks.is("rows behind a take of 0", 3, () -> x.rows());
    }

    private static void writtenIfGot() {
        checks.says(SECTION, "read() that gets an entry;");
        adds(1, "read", 2, x -> x.read(3, 0, 0));
        adds(0, "read of no more", NONE, x -> x.read(4, 1, 0));
        checks.says(SECTION, "claim() that gets some.");
        adds(1, "claim", 1, x -> x.claim(3, 0, 1, 0));
        adds(0, "claim of one's own", 0, x -> x.claim(3, 0, 0, 0));
        adds(0, "claim with a tick too many", 0, x -> x.claim(3, 0, 1, 1));
        adds(0, "claim of a group that has not read", 0, x -> x.claim(3, 1, 1, 0));
    }

    private static void notWritten() {
        checks.says(SECTION, "Each of these calls that does not throw is written into the log as a row");
        adds(0, "push that throws", "throws.IllegalStateException", x -> Checks.answerOf(() -> x.push(1, 1, true)));
        adds(0, "pop that throws", "throws.IllegalStateException", x -> Checks.answerOf(() -> x.pop(9, true)));
        adds(0, "rate that throws", "throws.IllegalArgumentException", x -> Checks.answerOf(() -> x.rate(2, 1, -1)));
        adds(0, "append that throws", "throws.IndexOutOfBoundsException", x -> Checks.answerOf(() -> x.append(16, 1)));
        adds(0, "tick", 5, x -> x.tick(5));
        adds(0, "sample", 0, x -> x.sample(16));
        adds(0, "held", 5, x -> x.held());
        adds(0, "rewrite", 5, x -> x.rewrite());
        adds(0, "restart", 5, x -> x.restart());
        adds(0, "waiting", 1, x -> x.waiting(3, 0, 0));
        adds(0, "left", NONE, x -> x.left(0));
    }

    private static void clockOfThen() {
        checks.says(SECTION, "with the clock of then");
        Counted x = new Counted();
        x.tick(3);
        x.append(0, 1);
        x.append(0, 1);
        x.read(0, 0, 0);
        x.expire(0, 100);
        x.tick(7);
        x.read(0, 0, 0);
        x.push(1, 1, true);
        x.expire(1, 1000);
        x.tick(10);
        checks.is("restart", 2, () -> x.restart());
        checks.is("left of 0", 83, () -> x.left(0));
        checks.is("left of 1", 990, () -> x.left(1));
        checks.is("claim with 18", 0, () -> x.claim(0, 0, 1, 18));
        checks.is("claim with 17", 1, () -> x.claim(0, 0, 1, 17));
        checks.is("claim with 11", 0, () -> x.claim(0, 0, 1, 11));
        checks.is("claim with 10", 1, () -> x.claim(0, 0, 1, 10));
    }

    // ---- 300 rows

    private static final String[] WRITING = {
        "push", "pop", "add", "take", "take of a sorted one", "rate", "append", "read", "done", "claim", "remove",
        "expire",
    };
    private static final Doing[] WRITE = {
        x -> x.push(0, 6, true), x -> x.pop(0, true), x -> x.add(1, 6), x -> x.take(1, 5), x -> x.take(2, 5),
        x -> x.rate(2, 5, Bits.TWO), x -> x.append(3, 1), x -> x.read(3, 0, 0), x -> x.done(3, 0, 1),
        x -> x.claim(3, 0, 1, 0), x -> x.remove(0), x -> x.expire(0, 1),
    };
    private static final String[] IDLING = {
        "add of a member", "take of no member", "take of no member of a sorted one", "read of no more",
        "done of what does not wait", "claim of one's own", "remove of no key", "expire of no key",
    };
    private static final Doing[] IDLE = {
        x -> x.add(1, 5), x -> x.take(1, 6), x -> x.take(2, 6), x -> x.read(4, 1, 0), x -> x.done(3, 0, 2),
        x -> x.claim(3, 0, 0, 0), x -> x.remove(9), x -> x.expire(9, 1),
    };

    private static void atMost300() {
        checks.says(SECTION, "At most 300 rows are in the log;");
        for (int i = 0; i < WRITE.length; i++) {
            Counted x = some();
            x.fillLog(299);
            Doing write = WRITE[i];
            checks.answers(WRITING[i] + " as the 300th row", () -> write.on(x));
            checks.is("rows", 300, () -> x.rows());
            checks.throwsState("push behind it", () -> x.push(8, 1, true));
            checks.is("rows", 300, () -> x.rows());
        }
        Counted x = some();
        x.fillLog(299);
        for (int i = 0; i < IDLE.length; i++) {
            Doing idle = IDLE[i];
            checks.answers(IDLING[i] + " with 299", () -> idle.on(x));
            checks.is("rows", 299, () -> x.rows());
        }
    }

    private static void throwsAt300() {
        checks.says(SECTION, "with 300 these calls throw, also if they would write none.");
        Counted x = some();
        x.fillLog(300);
        String before = x.told(0, 1, 2, 3, 4, 15);
        for (int i = 0; i < WRITE.length; i++) {
            Doing write = WRITE[i];
            checks.throwsState(WRITING[i] + " with 300", () -> write.on(x));
        }
        for (int i = 0; i < IDLE.length; i++) {
            Doing idle = IDLE[i];
            checks.throwsState(IDLING[i] + " with 300", () -> idle.on(x));
        }
        checks.throwsState("push that makes", () -> x.push(9, 1, true));
        checks.is("rows", 300, () -> x.rows());
        checks.is("what the keys tell", before, () -> x.told(0, 1, 2, 3, 4, 15));
        checks.is("held", 5, () -> x.held());
        checks.is("tick", 1, () -> x.tick(1));
        checks.is("sample", 0, () -> x.sample(16));
        checks.is("restart", 5, () -> x.restart());
        checks.is("rewrite", 5, () -> x.rewrite());
        checks.is("writeOn", 3, () -> x.writeOn(2));
    }

    private static void throwsAt300WhileRewriting() {
        checks.says(SECTION, "with 300 these calls throw");
        Counted x = some();
        x.fillLog(298);
        x.rewrite();
        x.writeOn(4);
        x.push(0, 6, true);
        checks.is("push as the 300th row", 3, () -> x.push(0, 7, true));
        for (int i = 0; i < WRITE.length; i++) {
            Doing write = WRITE[i];
            checks.throwsState(WRITING[i] + " while rewriting", () -> write.on(x));
        }
        checks.throwsState("add of a member while rewriting", () -> x.add(1, 5));
        checks.is("writeOn", 0, () -> x.writeOn(1));
        // 3 of the keys 0 to 2, 3 and 2 of the streams, and 2 since then
        checks.is("rows", 10, () -> x.rows());
        checks.is("push", 4, () -> x.push(0, 8, true));
    }

    private static void room300Again() {
        checks.says(SECTION, "At most 300 rows are in the log;");
        Counted x = new Counted();
        x.fillLog(300);
        x.rewrite();
        x.writeOn(1);
        checks.is("rows", 0, () -> x.rows());
        for (int i = 1; i <= 40; i++) {
            int many = i;
            checks.is("push", many, () -> x.push(0, 1, true));
        }
        checks.is("rows", 40, () -> x.rows());
        x.restart();
        checks.is("size", 40, () -> x.size(0));
    }

    // ---- rewriting

    private static void beginsWithWhatIsThere() {
        checks.says(SECTION, "Rewriting begins with the keys that are there");
        Counted x = new Counted();
        for (int key = 0; key <= 15; key++) {
            int many = key + 1;
            x.fill(1 + key % 4, key, 1);
            checks.is("rewrite", many, () -> x.rewrite());
        }
        x.expire(0, 1);
        x.expire(15, 1);
        x.expire(7, 2);
        checks.is("rewrite with ends", 16, () -> x.rewrite());
        x.tick(1);
        checks.is("rewrite with two due", 14, () -> x.rewrite());
        x.remove(8);
        checks.is("rewrite with one removed", 13, () -> x.rewrite());
        x.tick(1);
        checks.is("rewrite with another due", 12, () -> x.rewrite());
        checks.is("writeOn", 0, () -> x.writeOn(12));
        checks.is("rows", 12, () -> x.rows());
        checks.is("restart", 12, () -> x.restart());
        checks.is("held", 12, () -> x.held());
    }

    private static void beginsAsTheyAreThen() {
        checks.says(SECTION, "as they are then.");
        Counted x = some();
        x.rewrite();
        x.push(0, 6, false);
        x.add(1, 4);
        x.rate(2, 5, Bits.TWO);
        x.append(3, 7);
        x.read(3, 0, 2);
        x.remove(4);
        x.push(9, 1, true);
        checks.is("rows", 15, () -> x.rows());
        checks.is("writeOn", 1, () -> x.writeOn(4));
        x.take(1, 5);
        checks.is("writeOn", 0, () -> x.writeOn(1));
        // 8 as they were, and 8 since then
        checks.is("rows", 16, () -> x.rows());
        String before = x.told(0, 1, 2, 3, 4, 9);
        checks.is("restart", 5, () -> x.restart());
        checks.is("what the keys tell", before, () -> x.told(0, 1, 2, 3, 4, 9));
        checks.is("held", 5, () -> x.held());
    }

    private static void dueWhileRewriting() {
        checks.says(SECTION, "as they are then.");
        Counted x = new Counted();
        x.push(0, 1, true);
        x.push(0, 2, true);
        x.expire(0, 5);
        x.append(1, 1);
        x.expire(1, 5);
        checks.is("rewrite", 2, () -> x.rewrite());
        x.tick(5);
        checks.is("sample", 2, () -> x.sample(16));
        x.push(0, 3, true);
        checks.is("writeOn of what is due and of what is anew", 0, () -> x.writeOn(2));
        checks.is("rows", 6, () -> x.rows());
        checks.is("restart", 1, () -> x.restart());
        checks.is("held", 2, () -> x.held());
        checks.is("what is anew", "3", () -> x.entries(0));
        checks.is("its end", NONE, () -> x.left(0));
        checks.is("what is due", ABSENT, () -> x.typeOf(1));
    }

    /** The rows that a rewriting of the lone key 0 leaves, and what it tells then and behind a restart. */
    private static void rewritten(Counted x, int rows) {
        String before = x.told(0);
        int form = x.formOf(0);
        checks.is("rewrite", 1, () -> x.rewrite());
        checks.is("writeOn", 0, () -> x.writeOn(1));
        checks.is("its form", form, () -> x.formOf(0));
        checks.is("rows", rows, () -> x.rows());
        checks.is("what it tells", before, () -> x.told(0));
        checks.is("restart", 1, () -> x.restart());
        checks.is("rows behind a restart", rows, () -> x.rows());
        checks.is("what it tells behind a restart", before, () -> x.told(0));
    }

    private static void listRows() {
        checks.says(SECTION, "for a LIST a push() of each entry at the end, in their order;");
        for (int many : new int[] {1, 2, 8, 9, 40}) {
            Counted x = new Counted();
            for (int i = 0; i < many; i++) {
                x.push(0, i * 7 % 10, i % 3 == 0);
            }
            int first = x.pop(0, false);
            x.push(0, first, false);
            rewritten(x, many);
            checks.is("form of a list of " + many, many <= 8 ? SMALL : BIG, () -> x.formOf(0));
        }
        Counted x = new Counted();
        x.push(0, 255, true);
        x.push(0, 9999, false);
        x.push(0, 0, true);
        rewritten(x, 3);
        checks.is("form with one above 255", BIG, () -> x.formOf(0));
        x.pop(0, false);
        rewritten(x, 2);
        checks.is("form without it", SMALL, () -> x.formOf(0));
    }

    private static void setRows() {
        checks.says(SECTION, "for a SET an add() of each member, rising;");
        for (int many : new int[] {1, 8, 9, 16, 17, 32, 33, 40}) {
            Counted x = new Counted();
            for (int i = 0; i < 40; i++) {
                x.add(0, 9999 - i * 201);
            }
            for (int i = 0; i < 40 - many; i++) {
                x.take(0, 9999 - i * 201);
            }
            checks.is("buckets ahead of it", 32, () -> x.next(0, 0));
            rewritten(x, many);
            int due = many <= 8 ? 0 : many <= 16 ? 8 : many <= 32 ? 16 : 32;
            checks.is("next(0) of " + many, due, () -> x.next(0, 0));
            checks.is("form of a set of " + many, many <= 8 ? SMALL : BIG, () -> x.formOf(0));
        }
    }

    private static void sortedRows() {
        checks.says(SECTION, "for a SORTED a rate() of each member in its order;");
        for (int many : new int[] {1, 6, 7, Bits.ORDER.length}) {
            Counted x = new Counted();
            for (int i = 0; i < many; i++) {
                x.rate(0, 9999 - i, Bits.ONE);
                x.rate(0, 9999 - i, Bits.ORDER[i * 10 % Bits.ORDER.length]);
            }
            x.rate(0, 0, Bits.ONE);
            x.take(0, 0);
            rewritten(x, many);
            checks.is("form of a sorted one of " + many, many <= 6 ? SMALL : BIG, () -> x.formOf(0));
        }
        Counted x = new Counted();
        x.fill(SORTED, 0, 40);
        x.rate(0, 0, Bits.TWO);
        String before = x.entries(0);
        checks.is("rewrite of 40", 1, () -> x.rewrite());
        checks.is("writeOn", 0, () -> x.writeOn(1));
        checks.is("rows", 40, () -> x.rows());
        checks.is("restart", 1, () -> x.restart());
        checks.is("members", before, () -> x.entries(0));
        checks.is("the last of 40", 0, () -> x.at(0, 39));
    }

    private static void streamRows() {
        checks.says(SECTION, "for a STREAM its rows of append(), read(), done() and claim() again");
        for (int many : new int[] {1, 16, 17, 40}) {
            Counted x = new Counted();
            x.fill(STREAM, 0, many);
            rewritten(x, many);
            checks.is("form of a stream of " + many, many <= 16 ? SMALL : BIG, () -> x.formOf(0));
        }
        Counted x = new Counted();
        x.fill(STREAM, 0, 4);
        for (int i = 0; i < 12; i++) {
            x.read(0, i % 3, i % 4);
        }
        x.done(0, 0, 1);
        x.done(0, 1, 2);
        x.done(0, 2, 4);
        x.claim(0, 1, 3, 0);
        x.read(0, 0, 0);
        x.done(0, 0, 1);
        x.claim(0, 1, 3, 0);
        rewritten(x, 20);
        checks.is("done of a done one", false, () -> x.done(0, 0, 1));
        checks.is("done of another", true, () -> x.done(0, 1, 1));
        checks.is("read of all", NONE, () -> x.read(0, 2, 0));
        rewritten(x, 21);
    }

    private static void streamRowsAnew() {
        checks.says(SECTION, "all since it was made");
        Counted x = new Counted();
        x.append(0, 1);
        x.append(0, 2);
        x.read(0, 0, 0);
        x.expire(0, 1);
        x.tick(1);
        x.append(0, 3);
        x.read(0, 1, 1);
        rewritten(x, 2);
        x.remove(0);
        x.append(0, 4);
        x.append(1, 9);
        x.append(1, 9);
        x.remove(1);
        rewritten(x, 1);
        x.remove(0);
        x.push(0, 1, true);
        x.pop(0, true);
        x.append(0, 5);
        x.append(0, 6);
        x.restart();
        x.append(0, 7);
        rewritten(x, 3);
        checks.is("entries", "5 6 7", () -> x.entries(0));
    }

    private static void streamClocks() {
        checks.says(SECTION, "with their clocks;");
        Counted x = new Counted();
        x.append(0, 1);
        x.append(0, 2);
        x.read(0, 0, 0);
        x.tick(5);
        x.read(0, 0, 0);
        x.tick(5);
        // With the clock of another time this claim would get both or none.
        checks.is("claim of one of two", 1, () -> x.claim(0, 0, 1, 10));
        x.tick(5);
        rewritten(x, 5);
        checks.is("what waits", "1 1 0 0", () -> x.waits(0, 0));
        x.tick(1);
        checks.is("claim with 12", 0, () -> x.claim(0, 0, 2, 12));
        checks.is("claim of what was read with 11", 1, () -> x.claim(0, 0, 2, 11));
        checks.is("claim with 7", 0, () -> x.claim(0, 0, 3, 7));
        checks.is("claim of what was claimed with 6", 1, () -> x.claim(0, 0, 3, 6));
        rewritten(x, 7);
        x.tick(1);
        checks.is("claim of both with 2", 0, () -> x.claim(0, 0, 0, 2));
        checks.is("claim of both with 1", 2, () -> x.claim(0, 0, 0, 1));
    }

    private static void endRows() {
        checks.says(SECTION, "and for a key with an end one row that tells this end;");
        for (int type = LIST; type <= STREAM; type++) {
            for (int ticks : new int[] {1, 2, 1000}) {
                Counted x = new Counted();
                x.fill(type, 0, 3);
                rewritten(x, 3);
                x.expire(0, 7);
                x.tick(2);
                x.expire(0, 1000);
                x.expire(0, ticks);
                x.fill(type, 1, 1);
                x.remove(1);
                rewritten(x, 4);
                checks.is("left", ticks, () -> x.left(0));
                if (ticks > 1) {
                    x.tick(ticks - 1);
                }
                checks.is("left a tick ahead", 1, () -> x.left(0));
                rewritten(x, 4);
                x.tick(1);
                checks.is("left at the end", 0, () -> x.left(0));
                checks.is("restart at the end", 0, () -> x.restart());
                checks.is("held", 1, () -> x.held());
                checks.is("rewrite at the end", 0, () -> x.rewrite());
                x.writeOn(1);
                checks.is("rows", 0, () -> x.rows());
            }
        }
    }

    private static void clockOfTheBeginning() {
        checks.says(SECTION, "but for those of a STREAM each with the clock of the beginning.");
        for (int type = LIST; type <= STREAM; type++) {
            Counted x = new Counted();
            x.tick(3);
            x.fill(type, 0, 2);
            x.fill(type, 1, 2);
            x.expire(0, 10);
            x.expire(1, 20);
            x.tick(4);
            x.rewrite();
            x.tick(5);
            checks.is("writeOn", 1, () -> x.writeOn(1));
            checks.is("left", "1 11", () -> x.left(0) + " " + x.left(1));
            x.tick(1);
            x.append(0, 9);
            checks.is("writeOn", 0, () -> x.writeOn(1));
            checks.is("rows", 7, () -> x.rows());
            checks.is("restart", 2, () -> x.restart());
            checks.is("what was due and is made anew", "9", () -> x.entries(0));
            checks.is("what is not due", "0 1", () -> x.entries(1));
            checks.is("left", "-1 10", () -> x.left(0) + " " + x.left(1));
        }
    }

    private static void becomesTheNewRows() {
        checks.says(SECTION, "Once writeOn() has told 0, the log becomes the new rows");
        Counted x = new Counted();
        for (int key = 0; key <= 15; key++) {
            x.push(key, 1, true);
            x.push(key, 2, true);
            x.pop(key, true);
        }
        x.rewrite();
        for (int left = 15; left >= 1; left--) {
            int due = left;
            checks.is("writeOn", due, () -> x.writeOn(1));
            checks.is("rows still", 48, () -> x.rows());
        }
        checks.is("writeOn", 0, () -> x.writeOn(1));
        checks.is("rows", 16, () -> x.rows());
        checks.says(SECTION, "and behind them those that were written into it since the rewriting began.");
        x.rewrite();
        x.push(0, 3, true);
        checks.is("writeOn", 8, () -> x.writeOn(8));
        x.push(0, 4, false);
        x.tick(5);
        x.expire(0, 10);
        checks.is("rows still", 19, () -> x.rows());
        checks.is("writeOn", 0, () -> x.writeOn(8));
        checks.is("rows", 19, () -> x.rows());
        x.pop(0, false);
        checks.is("rows behind it", 20, () -> x.rows());
        String before = x.told(0, 1, 15);
        checks.is("restart", 16, () -> x.restart());
        checks.is("what the keys tell", before, () -> x.told(0, 1, 15));
        checks.is("its entries", "1 3", () -> x.entries(0));
        checks.is("its end", 10, () -> x.left(0));
    }

    private static void becomesTheNewRowsWhenFull() {
        checks.says(SECTION, "the log becomes the new rows, and behind them");
        Counted x = new Counted();
        for (int key = 0; key < 7; key++) {
            x.fill(1 + key % 4, key, 40);
        }
        checks.is("rows", 280, () -> x.rows());
        x.rewrite();
        x.fill(SET, 7, 19);
        x.expire(7, 1000);
        checks.is("rows", 300, () -> x.rows());
        checks.is("writeOn", 0, () -> x.writeOn(16));
        checks.is("rows that all stay", 300, () -> x.rows());
        checks.throwsState("push", () -> x.push(8, 1, true));
        checks.is("restart", 8, () -> x.restart());
        x.rewrite();
        checks.is("writeOn", 0, () -> x.writeOn(8));
        checks.is("rows that all stay", 300, () -> x.rows());
        for (int key = 0; key < 7; key++) {
            int k = key;
            checks.is("size of " + key, 40, () -> x.size(k));
            checks.is("its last one", 39, () -> x.at(k, 39));
        }
        checks.is("left", 1000, () -> x.left(7));
    }

    private static void inPlaceOfAnother() {
        checks.says("Promise 18:", "in place of a rewriting that goes on.");
        Counted x = new Counted();
        x.push(0, 1, true);
        x.push(1, 1, true);
        x.push(1, 2, true);
        x.pop(1, true);
        checks.is("rewrite", 2, () -> x.rewrite());
        x.push(0, 2, true);
        checks.is("writeOn", 1, () -> x.writeOn(1));
        x.remove(1);
        x.push(2, 7, true);
        checks.is("rewrite in its place", 2, () -> x.rewrite());
        checks.is("writeOn", 1, () -> x.writeOn(1));
        x.push(0, 3, true);
        checks.is("writeOn", 0, () -> x.writeOn(1));
        // 2 and 1 as they were at the second beginning, and 1 since then
        checks.is("rows", 4, () -> x.rows());
        checks.throwsState("writeOn again", () -> x.writeOn(1));
        checks.is("restart", 2, () -> x.restart());
        checks.is("entries", "1 2 3 and 7", () -> x.entries(0) + " and " + x.entries(2));
        checks.is("what was removed", ABSENT, () -> x.typeOf(1));
    }

    // ---- restarts

    private static void restartHoldsNone() {
        checks.says(SECTION, "At a restart no key is held");
        Counted x = some();
        x.expire(0, 1);
        x.expire(1, 1);
        x.tick(1);
        checks.is("held", 5, () -> x.held());
        x.rewrite();
        x.writeOn(16);
        // The rows of the two that are due are not in the log any more, though both are held.
        checks.is("held", 5, () -> x.held());
        checks.is("restart", 3, () -> x.restart());
        checks.is("held", 3, () -> x.held());
        checks.is("due ones", 0, () -> x.sample(16));
    }

    private static void restartGivesUp() {
        checks.says(SECTION, "a rewriting that goes on is given up");
        Counted x = some();
        x.push(0, 6, true);
        x.pop(0, true);
        x.rewrite();
        x.writeOn(2);
        checks.is("restart", 5, () -> x.restart());
        checks.throwsState("writeOn", () -> x.writeOn(1));
        checks.throwsArgument("writeOn of 0", () -> x.writeOn(0));
        checks.is("rows", 10, () -> x.rows());
        checks.is("rewrite", 5, () -> x.rewrite());
        checks.is("writeOn", 0, () -> x.writeOn(5));
        checks.is("rows", 8, () -> x.rows());
        Counted y = new Counted();
        y.rewrite();
        y.restart();
        checks.throwsState("writeOn of a rewriting of no keys", () -> y.writeOn(1));
    }

    private static void restartAsIfTheClock() {
        checks.says(SECTION, "and all rows of the log are done one by one, each as if the clock was the one that it tells;");
        Counted x = new Counted();
        x.push(0, 1, true);
        x.expire(0, 5);
        x.tick(4);
        x.push(0, 2, true);
        x.expire(0, 5);
        x.tick(4);
        x.push(0, 3, true);
        checks.is("left", 1, () -> x.left(0));
        checks.is("restart", 1, () -> x.restart());
        checks.is("left", 1, () -> x.left(0));
        checks.is("entries", "1 2 3", () -> x.entries(0));
        x.tick(1);
        checks.is("restart at the end", 0, () -> x.restart());
        checks.is("held", 1, () -> x.held());
        checks.is("left", 0, () -> x.left(0));
        checks.is("sample", 1, () -> x.sample(16));
        checks.is("held when sampled", 0, () -> x.held());
        checks.is("restart again", 0, () -> x.restart());
        checks.is("held again", 1, () -> x.held());
        x.tick(1000);
        x.append(0, 9);
        checks.is("restart with what is made anew", 1, () -> x.restart());
        checks.is("type", STREAM, () -> x.typeOf(0));
    }

    private static void restartMakesAnew() {
        checks.says(SECTION, "a value is made anew if its key is not there at that clock.");
        for (int type = LIST; type <= STREAM; type++) {
            Counted x = new Counted();
            x.fill(type, 0, 20);
            x.expire(0, 5);
            x.tick(5);
            x.fill(type, 0, 2);
            x.tick(5);
            checks.is("restart", 1, () -> x.restart());
            checks.is("entries", "0 1", () -> x.entries(0));
            checks.is("form", SMALL, () -> x.formOf(0));
            checks.is("left", NONE, () -> x.left(0));
            Counted y = new Counted();
            y.fill(type, 0, 20);
            y.expire(0, 6);
            y.tick(5);
            y.fill(type, 0, 1);
            y.expire(0, 6);
            y.tick(5);
            checks.is("restart of what was never due", 1, () -> y.restart());
            checks.is("form", BIG, () -> y.formOf(0));
            checks.is("left", 1, () -> y.left(0));
        }
    }

    private static void restartLeaves() {
        checks.says(SECTION, "The log, the clock, and which key was sampled last stay as they were.");
        Counted x = new Counted();
        for (int key = 0; key <= 4; key++) {
            x.push(key, 1, true);
            x.expire(key, 1 + key % 2);
        }
        x.tick(1);
        checks.is("sample of 0, 1 and 2", 2, () -> x.sample(3));
        int rows = x.rows();
        checks.is("restart", 2, () -> x.restart());
        checks.is("rows", rows, () -> x.rows());
        checks.is("held", 5, () -> x.held());
        checks.is("sample of 3", 0, () -> x.sample(1));
        checks.is("sample of 4", 1, () -> x.sample(1));
        checks.is("held", 4, () -> x.held());
        checks.is("the clock", 2, () -> x.tick(1));
        checks.is("restart", 0, () -> x.restart());
        checks.is("rows", rows, () -> x.rows());
        checks.is("sample of 0", 1, () -> x.sample(1));
        checks.is("the clock", 3, () -> x.tick(1));
    }

    private static void restartOfAnEmptyLog() {
        checks.says("Promise 20:", "Returns how many keys are there then.");
        Counted x = new Counted();
        checks.is("restart of a new one", 0, () -> x.restart());
        x.tick(9);
        checks.is("restart", 0, () -> x.restart());
        checks.is("the clock", 10, () -> x.tick(1));
        x.push(0, 1, true);
        x.expire(0, 1);
        x.tick(1);
        x.rewrite();
        x.writeOn(1);
        checks.is("rows", 0, () -> x.rows());
        checks.is("held", 1, () -> x.held());
        checks.is("restart of a log rewritten to nothing", 0, () -> x.restart());
        checks.is("held", 0, () -> x.held());
        checks.is("the clock", 12, () -> x.tick(1));
        checks.is("push", 1, () -> x.push(0, 1, true));
        checks.is("restart", 1, () -> x.restart());
    }

    private static void restartOfAFullLog() {
        checks.says(SECTION, "all rows of the log are done one by one");
        Counted x = new Counted();
        for (int i = 0; i < 150; i++) {
            x.push(i % 16, i, true);
            x.pop(i % 16, true);
        }
        checks.is("restart", 0, () -> x.restart());
        checks.is("rows", 300, () -> x.rows());
        checks.is("held", 0, () -> x.held());
        Counted y = new Counted();
        y.fillLog(299);
        y.push(3, 77, true);
        checks.is("restart", 2, () -> y.restart());
        checks.is("what the 300th row made", "77", () -> y.entries(3));
        checks.throwsState("push", () -> y.push(3, 78, true));
        checks.is("restart again", 2, () -> y.restart());
        checks.is("rows", 300, () -> y.rows());
    }
}
