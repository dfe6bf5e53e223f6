/** "Streams": each clause of the document at its boundaries. */
public final class StreamsTest {
    private static final int NONE = Compactforms.NONE, STREAM = Compactforms.STREAM;
    private static final String SECTION = "Streams";

    private static final Checks checks = new Checks("StreamsTest");

    public static void main(String[] args) {
        numbers();
        groups();
        placesAtFirst();
        readers();
        readsBehindItsPlace();
        readsWhatCame();
        readsAll40();
        readsOfDoneOnes();
        waitsForThisReader();
        waitsSinceNow();
        done();
        doneWithoutWaiting();
        doneOfAll40();
        doneIsNotClaimed();
        claimsOfOthers();
        claimsSinceAtLeast();
        claimsSinceNow();
        claimsOfTheGroup();
        claimsOfAll40();
        checks.allSaid(SECTION, SECTION);
        checks.finish();
    }

    private static Counted stream(int many) {
        Counted x = new Counted();
        x.fill(STREAM, 0, many);
        return x;
    }

    private static void numbers() {
        checks.says(SECTION, "The entries of a stream are numbered from 1.");
        Counted x = new Counted();
        for (int number = 1; number <= 40; number++) {
            int n = number;
            checks.is("append", n, () -> x.append(0, 100 + n));
        }
        checks.is("the number of the first one", 1, () -> x.read(0, 0, 0));
        checks.is("done of 0", false, () -> x.done(0, 0, 0));
        checks.is("done of 2", false, () -> x.done(0, 0, 2));
        checks.is("done of 1", true, () -> x.done(0, 0, 1));
        checks.is("the first one", 100 + 1, () -> x.at(0, 0));
        x.remove(0);
        checks.is("the number in a new one", 1, () -> x.append(0, 7));
    }

    private static void groups() {
        checks.says(SECTION, "It has the groups 0 to 2");
        Counted x = stream(3);
        for (int group = 0; group <= 2; group++) {
            int g = group;
            checks.is("read", 1, () -> x.read(0, g, 1));
            checks.is("waiting", 1, () -> x.waiting(0, g, 1));
            checks.is("claim", 1, () -> x.claim(0, g, 2, 0));
            checks.is("done", true, () -> x.done(0, g, 1));
        }
        for (int group : new int[] {-1, 3}) {
            checks.throwsIndex("read of group " + group, () -> x.read(0, group, 1));
            checks.throwsIndex("waiting of group " + group, () -> x.waiting(0, group, 1));
            checks.throwsIndex("claim of group " + group, () -> x.claim(0, group, 2, 0));
            checks.throwsIndex("done of group " + group, () -> x.done(0, group, 1));
        }
    }

    private static void placesAtFirst() {
        checks.says(SECTION, "each with a place, 0 at first, and entries that wait");
        Counted x = stream(5);
        for (int group = 0; group <= 2; group++) {
            int g = group;
            checks.is("what waits at first", "0 0 0 0", () -> x.waits(0, g));
            checks.is("the first read", 1, () -> x.read(0, g, 0));
            checks.is("the second read", 2, () -> x.read(0, g, 0));
            checks.is("what waits then", "2 0 0 0", () -> x.waits(0, g));
        }
        checks.is("the third read", 3, () -> x.read(0, 1, 0));
        checks.is("the third read of another group", 3, () -> x.read(0, 0, 0));
        x.remove(0);
        x.append(0, 1);
        for (int group = 0; group <= 2; group++) {
            int g = group;
            checks.is("what waits in a new one", "0 0 0 0", () -> x.waits(0, g));
            checks.is("the first read in a new one", 1, () -> x.read(0, g, 0));
        }
    }

    private static void readers() {
        checks.says(SECTION, "each for a reader, 0 to 3, since a time.");
        Counted x = stream(8);
        for (int reader = 0; reader <= 3; reader++) {
            int r = reader;
            checks.is("read for " + reader, r + 1, () -> x.read(0, 0, r));
            checks.is("waiting for " + reader, 1, () -> x.waiting(0, 0, r));
        }
        for (int reader = 0; reader <= 3; reader++) {
            int r = reader;
            checks.is("claim for " + reader, reader == 0 ? 3 : 4, () -> x.claim(0, 0, r, 0));
            checks.is("waiting for " + reader, 4, () -> x.waiting(0, 0, r));
        }
        for (int reader : new int[] {-1, 4}) {
            checks.throwsIndex("read for " + reader, () -> x.read(0, 0, reader));
            checks.throwsIndex("waiting for " + reader, () -> x.waiting(0, 0, reader));
            checks.throwsIndex("claim for " + reader, () -> x.claim(0, 0, reader, 0));
        }
        checks.is("the next read", 5, () -> x.read(0, 0, 0));
    }

    private static void readsBehindItsPlace() {
        checks.says(SECTION, "When a group reads for a reader, it gets the entry behind its place, if there is one");
        Counted x = stream(2);
        checks.is("the last but one", 1, () -> x.read(0, 0, 0));
        checks.is("the last one", 2, () -> x.read(0, 0, 3));
        int rows = x.rows();
        for (int reader = 0; reader <= 3; reader++) {
            int r = reader;
            checks.is("behind the last one", NONE, () -> x.read(0, 0, r));
        }
        checks.is("rows", rows, () -> x.rows());
        checks.is("what waits", "1 0 0 1", () -> x.waits(0, 0));
    }

    private static void readsWhatCame() {
        checks.says(SECTION, "if there is one: the place is that entry then");
        Counted x = stream(1);
        x.read(0, 2, 0);
        checks.is("no more", NONE, () -> x.read(0, 2, 0));
        x.append(0, 1);
        checks.is("what came", 2, () -> x.read(0, 2, 0));
        checks.is("no more", NONE, () -> x.read(0, 2, 0));
        x.append(0, 1);
        x.append(0, 1);
        checks.is("what came", 3, () -> x.read(0, 2, 1));
        checks.is("what came", 4, () -> x.read(0, 2, 2));
        checks.is("no more", NONE, () -> x.read(0, 2, 2));
    }

    private static void readsAll40() {
        checks.says(SECTION, "it gets the entry behind its place, if there is one");
        for (int group = 0; group <= 2; group++) {
            int g = group;
            Counted x = stream(40);
            for (int entry = 1; entry <= 40; entry++) {
                checks.is("read", entry, () -> x.read(0, g, 3));
            }
            checks.is("behind 40", NONE, () -> x.read(0, g, 3));
            checks.is("behind 40 again", NONE, () -> x.read(0, g, 0));
            checks.is("what waits", "0 0 0 40", () -> x.waits(0, g));
            checks.is("in another group", "0 0 0 0", () -> x.waits(0, (g + 1) % 3));
            checks.is("in the third one", "0 0 0 0", () -> x.waits(0, (g + 2) % 3));
            checks.is("the first of another group", 1, () -> x.read(0, (g + 1) % 3, 3));
        }
    }

    private static void readsOfDoneOnes() {
        checks.says(SECTION, "the place is that entry then");
        Counted x = stream(3);
        x.read(0, 0, 0);
        x.done(0, 0, 1);
        checks.is("behind a done one", 2, () -> x.read(0, 0, 0));
        x.claim(0, 0, 1, 0);
        checks.is("behind a claimed one", 3, () -> x.read(0, 0, 0));
        x.done(0, 0, 3);
        checks.is("behind a done last one", NONE, () -> x.read(0, 0, 0));
    }

    private static void waitsForThisReader() {
        checks.says(SECTION, "and it waits for this reader since now.");
        for (int reader = 0; reader <= 3; reader++) {
            Counted x = stream(2);
            x.read(0, 1, reader);
            x.read(0, 1, 3 - reader);
            String due = reader == 0 || reader == 3 ? "1 0 0 1" : "0 1 1 0";
            checks.is("what waits", due, () -> x.waits(0, 1));
            checks.is("in another group", "0 0 0 0", () -> x.waits(0, 0));
        }
    }

    private static void waitsSinceNow() {
        checks.says(SECTION, "since now.");
        Counted x = stream(2);
        x.tick(1000);
        x.read(0, 0, 0);
        checks.is("claim of what waits since now with 1", 0, () -> x.claim(0, 0, 1, 1));
        x.tick(10);
        x.read(0, 0, 0);
        checks.is("claim with 11", 0, () -> x.claim(0, 0, 1, 11));
        checks.is("claim with 10", 1, () -> x.claim(0, 0, 1, 10));
        checks.is("claim with 0", 1, () -> x.claim(0, 0, 1, 0));
    }

    private static void done() {
        checks.says(SECTION, "An entry that is done waits no more.");
        Counted x = stream(3);
        x.read(0, 0, 2);
        x.read(0, 0, 2);
        checks.is("waiting", 2, () -> x.waiting(0, 0, 2));
        checks.is("done", true, () -> x.done(0, 0, 2));
        checks.is("waiting", 1, () -> x.waiting(0, 0, 2));
        checks.is("done again", false, () -> x.done(0, 0, 2));
        checks.is("waiting", 1, () -> x.waiting(0, 0, 2));
        checks.is("done of the other", true, () -> x.done(0, 0, 1));
        checks.is("waiting", 0, () -> x.waiting(0, 0, 2));
        checks.is("size", 3, () -> x.size(0));
        checks.is("entries", "0 1 2", () -> x.entries(0));
    }

    private static void doneWithoutWaiting() {
        checks.says("Promise 9:", "`entry`: its number");
        Counted x = stream(3);
        x.read(0, 0, 0);
        x.read(0, 0, 0);
        x.read(0, 1, 0);
        int rows = x.rows();
        for (int entry : new int[] {Integer.MIN_VALUE, -40, -1, 0, 3, 4, 40, 41, 42, 80, 81, Integer.MAX_VALUE}) {
            checks.is("done of " + entry, false, () -> x.done(0, 0, entry));
            checks.is("done in group 2 of " + entry, false, () -> x.done(0, 2, entry));
        }
        checks.is("done in group 1 of 2", false, () -> x.done(0, 1, 2));
        // Numbers that would be those of another group, if all stood in one row.
        checks.is("done in group 0 of 41", false, () -> x.done(0, 0, 41));
        checks.is("done in group 1 of -39", false, () -> x.done(0, 1, -39));
        checks.is("done in group 2 of -39", false, () -> x.done(0, 2, -39));
        checks.is("rows", rows, () -> x.rows());
        checks.is("what waits", "2 0 0 0", () -> x.waits(0, 0));
        checks.is("what waits", "1 0 0 0", () -> x.waits(0, 1));
    }

    private static void doneOfAll40() {
        checks.says("Promise 9:", "Returns whether it waited.");
        Counted x = stream(40);
        for (int entry = 1; entry <= 40; entry++) {
            x.read(0, 2, entry % 4);
        }
        for (int entry = 40; entry >= 1; entry--) {
            int e = entry;
            checks.is("done", true, () -> x.done(0, 2, e));
            checks.is("done again", false, () -> x.done(0, 2, e));
        }
        checks.is("what waits", "0 0 0 0", () -> x.waits(0, 2));
    }

    private static void doneIsNotClaimed() {
        checks.says(SECTION, "An entry that is done waits no more.");
        Counted x = stream(2);
        x.read(0, 0, 0);
        x.read(0, 0, 0);
        x.done(0, 0, 1);
        x.tick(5);
        checks.is("claim", 1, () -> x.claim(0, 0, 1, 5));
        checks.is("what waits", "0 1 0 0", () -> x.waits(0, 0));
        x.done(0, 0, 2);
        checks.is("claim of none", 0, () -> x.claim(0, 0, 2, 0));
        checks.is("what waits", "0 0 0 0", () -> x.waits(0, 0));
    }

    private static void claimsOfOthers() {
        checks.says(SECTION, "When a reader claims with a number of ticks, all entries of the group that wait for "
            + "other readers");
        for (int reader = 0; reader <= 3; reader++) {
            int r = reader;
            Counted x = stream(8);
            for (int i = 0; i < 8; i++) {
                x.read(0, 0, i % 4);
            }
            checks.is("what waits", "2 2 2 2", () -> x.waits(0, 0));
            checks.is("claim", 6, () -> x.claim(0, 0, r, 0));
            checks.is("waiting then", 8, () -> x.waiting(0, 0, r));
            checks.is("claim of one's own", 0, () -> x.claim(0, 0, r, 0));
        }
        Counted x = stream(1);
        checks.is("claim of what is not read", 0, () -> x.claim(0, 0, 0, 0));
    }

    private static void claimsSinceAtLeast() {
        checks.says(SECTION, "since at least so many ticks");
        for (int ticks : new int[] {0, 1, 2, 999, 1000}) {
            Counted x = stream(3);
            x.read(0, 0, 0);
            if (ticks > 0) {
                x.tick(ticks);
            }
            x.read(0, 0, 0);
            if (ticks < 1000) {
                checks.is("claim with " + (ticks + 1), 0, () -> x.claim(0, 0, 1, ticks + 1));
            }
            checks.is("claim with " + ticks, ticks == 0 ? 2 : 1, () -> x.claim(0, 0, 1, ticks));
        }
        Counted x = stream(1);
        x.read(0, 0, 0);
        x.tick(999);
        checks.is("claim with 1000 of what waits since 999", 0, () -> x.claim(0, 0, 1, 1000));
        x.tick(2);
        checks.is("claim with 1000 of what waits since 1001", 1, () -> x.claim(0, 0, 1, 1000));
    }

    private static void claimsSinceNow() {
        checks.says(SECTION, "wait for this reader since now.");
        Counted x = stream(2);
        x.read(0, 0, 0);
        x.tick(4);
        x.read(0, 0, 1);
        x.tick(4);
        checks.is("claim", 1, () -> x.claim(0, 0, 1, 8));
        // What is claimed waits since now, but one's own, not claimed, waits since it was read.
        checks.is("claim by another with 5", 0, () -> x.claim(0, 0, 2, 5));
        checks.is("claim by another with 4", 1, () -> x.claim(0, 0, 2, 4));
        checks.is("what waits", "0 1 1 0", () -> x.waits(0, 0));
        checks.is("claim by a third with 1", 0, () -> x.claim(0, 0, 3, 1));
        x.tick(1);
        checks.is("claim by a third with 1 later", 2, () -> x.claim(0, 0, 3, 1));
        checks.is("what waits", "0 0 0 2", () -> x.waits(0, 0));
    }

    private static void claimsOfTheGroup() {
        checks.says(SECTION, "all entries of the group");
        Counted x = stream(2);
        for (int group = 0; group <= 2; group++) {
            x.read(0, group, 0);
            x.read(0, group, 0);
        }
        checks.is("claim", 2, () -> x.claim(0, 1, 3, 0));
        checks.is("group 0", "2 0 0 0", () -> x.waits(0, 0));
        checks.is("group 1", "0 0 0 2", () -> x.waits(0, 1));
        checks.is("group 2", "2 0 0 0", () -> x.waits(0, 2));
    }

    private static void claimsOfAll40() {
        checks.says("Promise 10:", "Returns how many it gets.");
        for (int group = 0; group <= 2; group++) {
            int g = group;
            Counted x = stream(40);
            for (int entry = 1; entry <= 40; entry++) {
                x.read(0, 0, 1);
                x.read(0, 1, 1);
                x.read(0, 2, 1);
            }
            checks.is("claim of all", 40, () -> x.claim(0, g, 0, 0));
            checks.is("what waits", "40 0 0 0", () -> x.waits(0, g));
            checks.is("in the next group", "0 40 0 0", () -> x.waits(0, (g + 1) % 3));
            checks.is("in the third group", "0 40 0 0", () -> x.waits(0, (g + 2) % 3));
        }
    }
}
