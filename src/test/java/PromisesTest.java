/** For each promise of the document ordinary calls, the edges that it names, and wrong arguments. */
public final class PromisesTest {
    private static final int ONE = 0x3f800000, TWO = 0x40000000, MINUS_ONE = 0xbf800000;
    private static final int INFINITE = 0x7f800000, MINUS_INFINITE = 0xff800000, MINUS_ZERO = 0x80000000;
    private static final int[] NO_KEYS = {-1, 16, Integer.MIN_VALUE, Integer.MAX_VALUE};
    private static final int[] NO_VALUES = {-1, 10000, Integer.MIN_VALUE, Integer.MAX_VALUE};

    private static final Checks checks = new Checks("PromisesTest");

    public static void main(String[] args) {
        promise1();
        promise2();
        promise2Forms();
        promise3();
        promise4();
        promise4Forms();
        promise5();
        promise6();
        promise6Forms();
        promise7();
        promise8();
        promise9();
        promise10();
        promise11();
        promise12();
        promise13();
        promise14();
        promise15();
        promise16();
        promise17();
        promise18();
        promise19();
        promise19Contents();
        promise19FullLogs();
        promise19Streams();
        promise20();
        promise20Forms();
        promise21();
        promise21FullLog();
        promise22();
        promise23();
        promise24();
        promise25();
        promise26();
        promise27();
        promise28();
        promise29();
        promise30();
        wrongKeys();
        orderOfExceptions();
        throwingChangesNothing();
        checks.finish();
    }

    // ---- what tests are made of

    /** All that can be asked of the keys 0 to 4 and the log, in one text. */
    private static String all(Counted x) {
        StringBuilder told = new StringBuilder();
        told.append(x.held()).append('/').append(x.rows());
        for (int key = 0; key < 5; key++) {
            told.append('|').append(x.typeOf(key)).append(x.formOf(key)).append(' ').append(x.left(key));
            told.append(' ').append(x.entries(key));
            for (int i = 0; i < 12; i++) {
                told.append(' ').append(x.waiting(key, i / 4, i % 4));
            }
        }
        return told.toString();
    }

    // ---- the promises

    private static void promise1() {
        checks.part("promise 1");
        Counted x = new Counted();
        for (int key = 0; key < 16; key++) {
            int k = key;
            checks.is("typeOf", Compactforms.ABSENT, () -> x.typeOf(k));
            checks.is("left", 0, () -> x.left(k));
        }
        checks.is("held", 0, () -> x.held());
        checks.is("rows", 0, () -> x.rows());
        checks.is("restart", 0, () -> x.restart());
        checks.throwsState("writeOn without a rewriting", () -> x.writeOn(1));
        checks.is("the clock", 1, () -> x.tick(1));
        Counted other = new Counted();
        x.push(0, 1, true);
        checks.is("another object's size", 0, () -> other.size(0));
        checks.is("NONE", -1, () -> Compactforms.NONE);
        checks.is("types", "01234", () -> "" + Compactforms.ABSENT + Compactforms.LIST + Compactforms.SET
            + Compactforms.SORTED + Compactforms.STREAM);
        checks.is("forms", "12", () -> "" + Compactforms.SMALL + Compactforms.BIG);
    }

    private static void promise2() {
        checks.part("promise 2");
        Counted x = new Counted();
        checks.is("push at the end", 1, () -> x.push(0, 5, true));
        checks.is("push at the end", 2, () -> x.push(0, 0, true));
        checks.is("push at the beginning", 3, () -> x.push(0, 9999, false));
        checks.is("push of the same", 4, () -> x.push(0, 5, false));
        checks.same("entries", "5 9999 5 0", x.entries(0));
        for (int value : NO_VALUES) {
            checks.throwsArgument("push of " + value, () -> x.push(0, value, true));
        }
        x.fillList(15, 40);
        checks.is("size", 40, () -> x.size(15));
        checks.throwsState("push of a 41st", () -> x.push(15, 1, true));
        checks.throwsState("push of a 41st", () -> x.push(15, 1, false));
        x.pop(15, false);
        checks.is("push of a 40th again", 40, () -> x.push(15, 77, false));
        checks.is("the first one", 77, () -> x.at(15, 0));
        x.add(1, 1);
        x.rate(2, 1, ONE);
        x.append(3, 1);
        for (int key = 1; key <= 3; key++) {
            int k = key;
            checks.throwsState("push to another type", () -> x.push(k, 1, true));
        }
        x.expire(1, 1);
        x.tick(1);
        checks.is("push to a key that is due", 1, () -> x.push(1, 8, true));
        checks.is("its type", Compactforms.LIST, () -> x.typeOf(1));
        checks.is("its end", Compactforms.NONE, () -> x.left(1));
    }

    private static void promise2Forms() {
        checks.part("promise 2, forms");
        for (int many = 1; many <= 40; many++) {
            Counted x = new Counted();
            x.fillList(3, many);
            int form = many <= 8 ? Compactforms.SMALL : Compactforms.BIG;
            checks.is("form of a list of " + many, form, () -> x.formOf(3));
            checks.is("its last", many - 1, () -> x.at(3, x.size(3) - 1));
            if (many < 40) {
                x.push(3, 200, false);
                checks.is("its first behind a new one", 0, () -> x.at(3, 1));
            }
        }
        Counted x = new Counted();
        x.push(0, 255, true);
        checks.is("form with 255", Compactforms.SMALL, () -> x.formOf(0));
        x.push(0, 256, false);
        checks.is("form with 256", Compactforms.BIG, () -> x.formOf(0));
        checks.same("entries", "256 255", x.entries(0));
        x.pop(0, false);
        checks.is("form for good", Compactforms.BIG, () -> x.formOf(0));
        x.pop(0, true);
        checks.is("form of no key", 0, () -> x.formOf(0));
        x.push(0, 1, true);
        checks.is("form of a new value", Compactforms.SMALL, () -> x.formOf(0));
        x.push(1, 9999, true);
        checks.is("form of a first entry above 255", Compactforms.BIG, () -> x.formOf(1));
    }

    private static void promise3() {
        checks.part("promise 3");
        Counted x = new Counted();
        checks.throwsState("pop of no key", () -> x.pop(0, true));
        x.fillList(0, 4);
        checks.is("pop at the end", 3, () -> x.pop(0, true));
        checks.is("pop at the beginning", 0, () -> x.pop(0, false));
        checks.same("entries", "1 2", x.entries(0));
        x.expire(0, 9);
        x.pop(0, true);
        checks.is("pop of the last one", 1, () -> x.pop(0, true));
        checks.is("typeOf", Compactforms.ABSENT, () -> x.typeOf(0));
        checks.is("held", 0, () -> x.held());
        checks.throwsState("pop of no list", () -> x.pop(0, false));
        x.push(0, 1, true);
        checks.is("left of a new one", Compactforms.NONE, () -> x.left(0));
        x.fillList(1, 40);
        StringBuilder popped = new StringBuilder();
        for (int i = 0; i < 40; i++) {
            popped.append(x.pop(1, i % 2 == 0)).append(' ');
        }
        checks.is("pops from both ends", true, () -> popped.toString().startsWith("39 0 38 1 ")
            && popped.toString().endsWith(" 21 18 20 19 "));
        x.add(2, 1);
        checks.throwsState("pop of a set", () -> x.pop(2, true));
        x.expire(0, 1);
        x.tick(1);
        checks.throwsState("pop of a key that is due", () -> x.pop(0, true));
        checks.is("it is held", 2, () -> x.held());
    }

    private static void promise4() {
        checks.part("promise 4");
        Counted x = new Counted();
        checks.is("add", true, () -> x.add(0, 9999));
        checks.is("add", true, () -> x.add(0, 0));
        checks.is("add of a member", false, () -> x.add(0, 9999));
        checks.is("rows", 2, () -> x.rows());
        checks.same("members", "0 9999", x.entries(0));
        for (int value : NO_VALUES) {
            checks.throwsArgument("add of " + value, () -> x.add(0, value));
        }
        x.fillSet(1, 40);
        checks.throwsState("add of a 41st", () -> x.add(1, 40));
        checks.is("add of a member of 40", false, () -> x.add(1, 39));
        x.push(2, 1, true);
        x.rate(3, 1, ONE);
        x.append(4, 1);
        for (int key = 2; key <= 4; key++) {
            int k = key;
            checks.throwsState("add to another type", () -> x.add(k, 1));
        }
        x.expire(2, 3);
        x.tick(2);
        checks.throwsState("add ahead of the end", () -> x.add(2, 1));
        x.tick(1);
        checks.is("add at the end", true, () -> x.add(2, 1));
        checks.is("its end", Compactforms.NONE, () -> x.left(2));
    }

    private static void promise4Forms() {
        checks.part("promise 4, forms");
        for (int many = 1; many <= 40; many++) {
            Counted x = new Counted();
            x.fillSet(0, many);
            int form = many <= 8 ? Compactforms.SMALL : Compactforms.BIG;
            checks.is("form of a set of " + many, form, () -> x.formOf(0));
            int behindFirst = many <= 8 ? 0 : many <= 16 ? 8 : many <= 32 ? 16 : 32;
            checks.is("next(0) of a set of " + many, behindFirst, () -> x.next(0, 0));
            checks.is("its last", many - 1, () -> x.at(0, x.size(0) - 1));
        }
        Counted x = new Counted();
        x.fillSet(0, 33);
        for (int i = 0; i < 32; i++) {
            x.take(0, i);
        }
        checks.is("form for good", Compactforms.BIG, () -> x.formOf(0));
        checks.is("buckets for good", 32, () -> x.next(0, 0));
        checks.same("what is left", "32", x.entries(0));
        x.take(0, 32);
        x.add(0, 1);
        checks.is("form of a new one", Compactforms.SMALL, () -> x.formOf(0));
        x.fillSet(0, 9);
        checks.is("buckets of a new one", 8, () -> x.next(0, 0));
    }

    private static void promise5() {
        checks.part("promise 5");
        Counted x = new Counted();
        checks.throwsState("take of no key", () -> x.take(0, 1));
        x.fillSet(0, 20);
        checks.is("take", true, () -> x.take(0, 7));
        checks.is("take again", false, () -> x.take(0, 7));
        checks.is("take of no member", false, () -> x.take(0, 9999));
        checks.is("size", 19, () -> x.size(0));
        checks.is("rows", 21, () -> x.rows());
        for (int value : NO_VALUES) {
            checks.throwsArgument("take of " + value, () -> x.take(0, value));
        }
        x.fillSorted(1, 10);
        checks.is("take out of a sorted one", true, () -> x.take(1, 0));
        checks.is("take out of it again", false, () -> x.take(1, 0));
        checks.same("members", "1 2 3 4 5 6 7 8 9", x.entries(1));
        x.rate(2, 4, ONE);
        x.expire(2, 5);
        checks.is("take of the last one", true, () -> x.take(2, 4));
        checks.is("it is not there", Compactforms.ABSENT, () -> x.typeOf(2));
        checks.is("held", 2, () -> x.held());
        checks.is("another type then", 1, () -> x.append(2, 4));
        checks.throwsState("take out of a stream", () -> x.take(2, 4));
        x.push(3, 4, true);
        checks.throwsState("take out of a list", () -> x.take(3, 4));
        x.expire(0, 1);
        x.tick(1);
        checks.throwsState("take out of what is due", () -> x.take(0, 1));
    }

    private static void promise6() {
        checks.part("promise 6");
        Counted x = new Counted();
        checks.is("rate", 0, () -> x.rate(0, 5, ONE));
        checks.is("rate 0", 0, () -> x.rate(0, 6, 0));
        checks.is("rate -0", 0, () -> x.rate(0, 7, MINUS_ZERO));
        checks.is("rate -1", 0, () -> x.rate(0, 8, MINUS_ONE));
        checks.is("rate -2", 0, () -> x.rate(0, 9, TWO | MINUS_ZERO));
        checks.is("rate infinite", 5, () -> x.rate(0, 0, INFINITE));
        checks.is("rate -infinite", 0, () -> x.rate(0, 9999, MINUS_INFINITE));
        checks.same("members", "9999 9 8 7 6 5 0", x.entries(0));
        checks.is("rate the same points", 5, () -> x.rate(0, 6, ONE));
        checks.same("of the same points by members", "9999 9 8 7 5 6 0", x.entries(0));
        checks.is("rate again to 2", 6, () -> x.rate(0, 0, TWO));
        checks.is("rate again to -1", 2, () -> x.rate(0, 0, MINUS_ONE));
        checks.is("size", 7, () -> x.size(0));
        checks.is("rows", 10, () -> x.rows());
        for (int member : NO_VALUES) {
            checks.throwsArgument("rate of " + member, () -> x.rate(0, member, ONE));
        }
        for (int bits : new int[] {INFINITE + 1, MINUS_INFINITE + 1, Integer.MAX_VALUE, -1, 0x7fc00000, 0xffc00000}) {
            checks.throwsArgument("rate to " + bits, () -> x.rate(0, 1, bits));
        }
        x.fillSorted(1, 40);
        checks.throwsState("rate of a 41st", () -> x.rate(1, 40, ONE));
        checks.is("rate of a member of 40", 39, () -> x.rate(1, 0, TWO));
        x.push(2, 1, true);
        x.add(3, 1);
        x.append(4, 1);
        for (int key = 2; key <= 4; key++) {
            int k = key;
            checks.throwsState("rate in another type", () -> x.rate(k, 1, ONE));
        }
        x.rate(5, 1, ONE);
        x.expire(5, 9);
        checks.is("rate of the only one", 0, () -> x.rate(5, 1, TWO));
        checks.is("its end stays", 9, () -> x.left(5));
        x.expire(3, 1);
        x.tick(1);
        checks.is("rate in what is due", 0, () -> x.rate(3, 1, ONE));
    }

    private static void promise6Forms() {
        checks.part("promise 6, forms");
        for (int many = 1; many <= 40; many++) {
            Counted x = new Counted();
            x.fillSorted(0, many);
            checks.is("rate again", many - 1, () -> x.rate(0, x.size(0) - 1, ONE));
            int form = many <= 6 ? Compactforms.SMALL : Compactforms.BIG;
            checks.is("form of a sorted one of " + many, form, () -> x.formOf(0));
            checks.is("the points", 1f, () -> x.points(0, 0));
        }
        Counted x = new Counted();
        x.fillSorted(0, 7);
        x.take(0, 3);
        checks.is("form for good", Compactforms.BIG, () -> x.formOf(0));
    }

    private static void promise7() {
        checks.part("promise 7");
        Counted x = new Counted();
        checks.is("append", 1, () -> x.append(0, 9999));
        checks.is("append", 2, () -> x.append(0, 0));
        checks.is("append of the same", 3, () -> x.append(0, 9999));
        checks.same("entries", "9999 0 9999", x.entries(0));
        for (int value : NO_VALUES) {
            checks.throwsArgument("append of " + value, () -> x.append(0, value));
        }
        for (int many = 4; many <= 40; many++) {
            int number = many;
            checks.is("append", many, () -> x.append(0, number));
            checks.is("form with " + many, many <= 16 ? Compactforms.SMALL : Compactforms.BIG, () -> x.formOf(0));
            checks.is("the entry", many, () -> x.at(0, number - 1));
        }
        checks.throwsState("append of a 41st", () -> x.append(0, 1));
        x.read(0, 0, 0);
        x.done(0, 0, 1);
        checks.throwsState("append though one is done", () -> x.append(0, 1));
        x.push(1, 1, true);
        x.add(2, 1);
        x.rate(3, 1, ONE);
        for (int key = 1; key <= 3; key++) {
            int k = key;
            checks.throwsState("append to another type", () -> x.append(k, 1));
        }
        x.remove(0);
        checks.is("append to a new one", 1, () -> x.append(0, 5));
        checks.is("form of a new one", Compactforms.SMALL, () -> x.formOf(0));
        checks.is("read of a new one", 1, () -> x.read(0, 0, 0));
    }

    private static void promise8() {
        checks.part("promise 8");
        Counted x = new Counted();
        checks.throwsState("read of no key", () -> x.read(0, 0, 0));
        x.append(0, 50);
        x.append(0, 60);
        checks.is("read", 1, () -> x.read(0, 0, 3));
        checks.is("read", 2, () -> x.read(0, 0, 0));
        checks.is("read of no more", Compactforms.NONE, () -> x.read(0, 0, 3));
        checks.is("rows", 4, () -> x.rows());
        checks.is("read of another group", 1, () -> x.read(0, 2, 3));
        x.append(0, 70);
        checks.is("read of what came", 3, () -> x.read(0, 0, 1));
        checks.is("waiting", "1 1 0 1", () -> x.waiting(0, 0, 0) + " " + x.waiting(0, 0, 1) + " "
            + x.waiting(0, 0, 2) + " " + x.waiting(0, 0, 3));
        for (int none : new int[] {-1, 3, Integer.MIN_VALUE, Integer.MAX_VALUE}) {
            checks.throwsIndex("read of group " + none, () -> x.read(0, none, 0));
        }
        for (int none : new int[] {-1, 4, Integer.MIN_VALUE, Integer.MAX_VALUE}) {
            checks.throwsIndex("read for reader " + none, () -> x.read(0, 0, none));
        }
        x.push(1, 1, true);
        checks.throwsState("read of a list", () -> x.read(1, 0, 0));
        x.fillStream(2, 40);
        for (int i = 1; i <= 40; i++) {
            int entry = i;
            checks.is("read of 40", entry, () -> x.read(2, 2, 3));
        }
        checks.is("waiting of 40", 40, () -> x.waiting(2, 2, 3));
        checks.is("done of the 40th", true, () -> x.done(2, 2, 40));
        checks.is("read behind 40", Compactforms.NONE, () -> x.read(2, 2, 3));
    }

    private static void promise9() {
        checks.part("promise 9");
        Counted x = new Counted();
        checks.throwsState("done of no key", () -> x.done(0, 0, 1));
        x.fillStream(0, 3);
        checks.is("done of what is not read", false, () -> x.done(0, 1, 1));
        x.read(0, 1, 2);
        checks.is("done in another group", false, () -> x.done(0, 0, 1));
        checks.is("done", true, () -> x.done(0, 1, 1));
        checks.is("done again", false, () -> x.done(0, 1, 1));
        checks.is("waiting", 0, () -> x.waiting(0, 1, 2));
        checks.is("rows", 5, () -> x.rows());
        for (int entry : new int[] {0, -1, 4, 40, 41, Integer.MIN_VALUE, Integer.MAX_VALUE}) {
            checks.is("done of " + entry, false, () -> x.done(0, 1, entry));
        }
        checks.is("read behind it", 2, () -> x.read(0, 1, 2));
        for (int none : new int[] {-1, 3, Integer.MIN_VALUE, Integer.MAX_VALUE}) {
            checks.throwsIndex("done of group " + none, () -> x.done(0, none, 1));
        }
        x.add(1, 1);
        checks.throwsState("done of a set", () -> x.done(1, 0, 1));
    }

    private static void promise10() {
        checks.part("promise 10");
        Counted x = new Counted();
        checks.throwsState("claim of no key", () -> x.claim(0, 0, 0, 0));
        x.fillStream(0, 4);
        x.read(0, 0, 0);
        x.tick(5);
        x.read(0, 0, 1);
        x.read(0, 1, 1);
        x.tick(5);
        x.read(0, 0, 2);
        checks.is("claim since 11", 0, () -> x.claim(0, 0, 2, 11));
        checks.is("rows", 8, () -> x.rows());
        checks.is("claim since 10", 1, () -> x.claim(0, 0, 2, 10));
        checks.is("claim since 6", 0, () -> x.claim(0, 0, 2, 6));
        checks.is("claim since 5", 1, () -> x.claim(0, 0, 2, 5));
        checks.is("waiting", "0 0 3", () -> x.waiting(0, 0, 0) + " " + x.waiting(0, 0, 1) + " " + x.waiting(0, 0, 2));
        checks.is("waiting in another group", 1, () -> x.waiting(0, 1, 1));
        checks.is("claim of one's own", 0, () -> x.claim(0, 0, 2, 0));
        checks.is("claim since now", 0, () -> x.claim(0, 0, 3, 1));
        checks.is("claim since 0", 3, () -> x.claim(0, 0, 3, 0));
        x.done(0, 0, 1);
        x.tick(1000);
        checks.is("claim of what is not done", 2, () -> x.claim(0, 0, 0, 1000));
        for (int ticks : new int[] {-1, 1001, Integer.MIN_VALUE, Integer.MAX_VALUE}) {
            checks.throwsArgument("claim since " + ticks, () -> x.claim(0, 0, 0, ticks));
        }
        for (int none : new int[] {-1, 3, Integer.MIN_VALUE, Integer.MAX_VALUE}) {
            checks.throwsIndex("claim of group " + none, () -> x.claim(0, none, 0, 0));
        }
        for (int none : new int[] {-1, 4, Integer.MIN_VALUE, Integer.MAX_VALUE}) {
            checks.throwsIndex("claim for reader " + none, () -> x.claim(0, 0, none, 0));
        }
        x.rate(1, 1, ONE);
        checks.throwsState("claim of a sorted one", () -> x.claim(1, 0, 0, 0));
    }

    private static void promise11() {
        checks.part("promise 11");
        Counted x = new Counted();
        checks.is("waiting of no key", 0, () -> x.waiting(0, 0, 0));
        x.push(0, 1, true);
        checks.is("waiting of a list", 0, () -> x.waiting(0, 2, 3));
        x.fillStream(1, 3);
        x.read(1, 2, 3);
        x.read(1, 2, 3);
        checks.is("waiting", 2, () -> x.waiting(1, 2, 3));
        checks.is("waiting for another", 0, () -> x.waiting(1, 2, 2));
        checks.is("waiting in another group", 0, () -> x.waiting(1, 1, 3));
        for (int none : new int[] {-1, 3, Integer.MIN_VALUE, Integer.MAX_VALUE}) {
            checks.throwsIndex("waiting of group " + none, () -> x.waiting(1, none, 0));
            checks.throwsIndex("waiting of group " + none + " of no stream", () -> x.waiting(5, none, 0));
        }
        for (int none : new int[] {-1, 4, Integer.MIN_VALUE, Integer.MAX_VALUE}) {
            checks.throwsIndex("waiting for reader " + none, () -> x.waiting(1, 0, none));
        }
        x.expire(1, 1);
        x.tick(1);
        checks.is("waiting of what is due", 0, () -> x.waiting(1, 2, 3));
        x.append(1, 1);
        checks.is("waiting of a new one", 0, () -> x.waiting(1, 2, 3));
    }

    private static void promise12() {
        checks.part("promise 12");
        Counted x = new Counted();
        checks.is("remove of no key", false, () -> x.remove(0));
        checks.is("rows", 0, () -> x.rows());
        x.push(0, 1, true);
        x.expire(0, 5);
        x.append(15, 1);
        checks.is("remove", true, () -> x.remove(0));
        checks.is("remove again", false, () -> x.remove(0));
        checks.is("remove of 15", true, () -> x.remove(15));
        checks.is("rows", 5, () -> x.rows());
        checks.is("held", 0, () -> x.held());
        x.add(0, 1);
        checks.is("left of a new one", Compactforms.NONE, () -> x.left(0));
        x.expire(0, 2);
        x.tick(2);
        checks.is("remove of what is due", false, () -> x.remove(0));
        checks.is("it is held", 1, () -> x.held());
    }

    private static void promise13() {
        checks.part("promise 13");
        Counted x = new Counted();
        checks.is("expire of no key", false, () -> x.expire(0, 1));
        checks.is("rows", 0, () -> x.rows());
        x.push(0, 1, true);
        checks.is("expire", true, () -> x.expire(0, 1000));
        checks.is("left", 1000, () -> x.left(0));
        checks.is("expire in its place", true, () -> x.expire(0, 2));
        checks.is("rows", 3, () -> x.rows());
        x.tick(1);
        checks.is("it is there", Compactforms.LIST, () -> x.typeOf(0));
        x.push(0, 2, true);
        checks.is("an end stays", 1, () -> x.left(0));
        x.tick(1);
        checks.is("it is not there", Compactforms.ABSENT, () -> x.typeOf(0));
        checks.is("expire of what is due", false, () -> x.expire(0, 1));
        for (int ticks : new int[] {0, -1, 1001, Integer.MIN_VALUE, Integer.MAX_VALUE}) {
            checks.throwsArgument("expire in " + ticks, () -> x.expire(0, ticks));
        }
    }

    private static void promise14() {
        checks.part("promise 14");
        Counted x = new Counted();
        checks.is("left of no key", 0, () -> x.left(0));
        x.push(0, 1, true);
        checks.is("left without an end", Compactforms.NONE, () -> x.left(0));
        x.tick(7);
        x.expire(0, 10);
        checks.is("left", 10, () -> x.left(0));
        x.tick(9);
        checks.is("left", 1, () -> x.left(0));
        x.tick(1);
        checks.is("left at the end", 0, () -> x.left(0));
        x.tick(1);
        checks.is("left behind the end", 0, () -> x.left(0));
    }

    private static void promise15() {
        checks.part("promise 15");
        Counted x = new Counted();
        checks.is("tick", 1, () -> x.tick(1));
        checks.is("tick", 1001, () -> x.tick(1000));
        for (int ticks : new int[] {0, -1, 1001, Integer.MIN_VALUE, Integer.MAX_VALUE}) {
            checks.throwsArgument("tick of " + ticks, () -> x.tick(ticks));
        }
        checks.is("tick", 1002, () -> x.tick(1));
        for (int i = 0; i < 400; i++) {
            x.tick(1000);
        }
        checks.is("tick", 401003, () -> x.tick(1));
        checks.is("rows", 0, () -> x.rows());
    }

    private static void promise16() {
        checks.part("promise 16");
        Counted x = new Counted();
        checks.is("sample of no keys", 0, () -> x.sample(16));
        for (int key : new int[] {0, 1, 3, 7, 15}) {
            x.push(key, 1, true);
        }
        x.expire(0, 5);
        x.expire(3, 1);
        x.expire(15, 1);
        x.tick(1);
        checks.is("sample of 0, not due", 0, () -> x.sample(1));
        checks.is("held", 5, () -> x.held());
        checks.is("sample of 3", 1, () -> x.sample(1));
        checks.is("held", 4, () -> x.held());
        x.tick(4);
        checks.is("sample of 15", 1, () -> x.sample(1));
        x.add(15, 1);
        x.expire(15, 1);
        checks.is("sample of 0 and 15", 1, () -> x.sample(2));
        checks.is("held", 3, () -> x.held());
        checks.is("left of 15", 1, () -> x.left(15));
        checks.is("sample of 15 alone", 0, () -> x.sample(16));
        x.tick(1);
        checks.is("sample of 15, due", 1, () -> x.sample(16));
        checks.is("held", 2, () -> x.held());
        checks.is("rows", 10, () -> x.rows());
        for (int many : new int[] {0, -1, 17, Integer.MIN_VALUE, Integer.MAX_VALUE}) {
            checks.throwsArgument("sample of " + many, () -> x.sample(many));
        }
        promise16AllAtOnce();
        Counted lone = new Counted();
        lone.push(0, 1, true);
        lone.expire(0, 2);
        lone.tick(1);
        lone.sample(1);
        lone.tick(1);
        checks.is("sample of a lone key again", 1, () -> lone.sample(1));
        checks.is("held", 0, () -> lone.held());
    }

    private static void promise16AllAtOnce() {
        Counted x = new Counted();
        for (int key = 0; key < 16; key++) {
            x.append(key, 1);
            x.expire(key, 1 + key % 2);
        }
        x.tick(1);
        checks.is("sample of 5 from 0 on", 3, () -> x.sample(5));
        checks.is("sample of 16 passes each key once", 5, () -> x.sample(16));
        checks.is("held", 8, () -> x.held());
        x.restart();
        checks.is("held behind a restart", 16, () -> x.held());
        checks.is("sample of 1 goes on behind 3", 1, () -> x.sample(1));
    }

    private static void promise17() {
        checks.part("promise 17");
        Counted x = new Counted();
        for (int key = 0; key < 16; key++) {
            int many = key + 1;
            x.rate(key, 1, ONE);
            checks.is("held", many, () -> x.held());
        }
        x.expire(4, 1);
        x.tick(1);
        checks.is("held with one due", 16, () -> x.held());
        x.push(4, 1, true);
        checks.is("held with a new one", 16, () -> x.held());
        x.pop(4, true);
        checks.is("held without it", 15, () -> x.held());
    }

    private static void promise18() {
        checks.part("promise 18");
        Counted x = new Counted();
        checks.is("rewrite of no keys", 0, () -> x.rewrite());
        checks.is("it goes on", 0, () -> x.writeOn(1));
        checks.throwsState("it goes on no more", () -> x.writeOn(1));
        x.push(0, 1, true);
        x.push(1, 1, true);
        x.expire(1, 1);
        x.push(2, 1, true);
        x.tick(1);
        checks.is("rewrite", 2, () -> x.rewrite());
        checks.is("writeOn", 1, () -> x.writeOn(1));
        x.push(3, 1, true);
        checks.is("rewrite in its place", 3, () -> x.rewrite());
        checks.is("writeOn", 2, () -> x.writeOn(1));
        checks.is("rows", 5, () -> x.rows());
        checks.is("writeOn", 0, () -> x.writeOn(2));
        checks.is("rows then", 3, () -> x.rows());
        checks.is("restart", 3, () -> x.restart());
    }

    private static void promise19() {
        checks.part("promise 19");
        Counted x = new Counted();
        checks.throwsState("writeOn at first", () -> x.writeOn(1));
        for (int key = 0; key < 16; key++) {
            x.append(key, 1);
        }
        x.rewrite();
        checks.is("writeOn", 15, () -> x.writeOn(1));
        checks.is("writeOn", 12, () -> x.writeOn(3));
        for (int keys : new int[] {0, -1, 17, Integer.MIN_VALUE, Integer.MAX_VALUE}) {
            checks.throwsArgument("writeOn of " + keys, () -> x.writeOn(keys));
        }
        x.append(0, 2);
        x.remove(1);
        checks.is("writeOn of more", 0, () -> x.writeOn(16));
        checks.throwsState("writeOn behind it", () -> x.writeOn(1));
        checks.is("rows", 18, () -> x.rows());
        checks.is("restart", 15, () -> x.restart());
        checks.is("size", 2, () -> x.size(0));
        x.rewrite();
        x.restart();
        checks.throwsState("writeOn behind a restart", () -> x.writeOn(1));
    }

    private static void promise19Contents() {
        checks.part("promise 19, the new log");
        Counted x = new Counted();
        x.push(0, 7, true);
        x.push(0, 8, false);
        x.push(0, 9, true);
        x.pop(0, false);
        x.add(1, 5);
        x.add(1, 4);
        x.take(1, 5);
        x.rate(2, 5, TWO);
        x.rate(2, 4, TWO);
        x.rate(2, 5, ONE);
        x.append(3, 9);
        x.read(3, 0, 1);
        x.tick(3);
        x.claim(3, 0, 2, 3);
        x.append(3, 8);
        x.read(3, 0, 1);
        x.done(3, 0, 2);
        x.push(4, 1, true);
        x.expire(4, 9);
        x.expire(3, 20);
        x.rewrite();
        x.tick(5);
        x.pop(0, false);
        x.append(3, 7);
        x.push(5, 1, true);
        checks.is("writeOn", 2, () -> x.writeOn(3));
        x.expire(2, 4);
        checks.is("writeOn", 0, () -> x.writeOn(3));
        // 2 of the list, 1 of the set, 2 of the sorted one, 6 and an end of the stream, 1 and an end, 4 since then
        checks.is("rows", 18, () -> x.rows());
        String before = all(x);
        checks.is("restart", 6, () -> x.restart());
        checks.same("all behind a restart", before, all(x));
        checks.is("claim of what waits since 3", 1, () -> x.claim(3, 0, 3, 5));
        x.rewrite();
        checks.is("writeOn", 0, () -> x.writeOn(16));
        // 1 of the list, 1, 2 and an end, 8 and an end of the stream, 1 and an end, 1
        checks.is("rows of the next one", 17, () -> x.rows());
        String later = all(x);
        x.restart();
        checks.same("all behind the next restart", later, all(x));
    }

    private static void promise19FullLogs() {
        checks.part("promise 19, full logs");
        Counted x = new Counted();
        for (int key = 0; key < 7; key++) {
            x.fillStream(key, 40);
        }
        x.rewrite();
        x.fillSet(7, 20);
        checks.is("writeOn", 0, () -> x.writeOn(16));
        checks.is("rows that all stay", 300, () -> x.rows());
        checks.is("rewrite", 8, () -> x.rewrite());
        checks.is("writeOn", 0, () -> x.writeOn(8));
        checks.is("rows that all stay", 300, () -> x.rows());
        checks.is("restart", 8, () -> x.restart());
        checks.is("sizes", "40 20", () -> x.size(6) + " " + x.size(7));
    }

    private static void promise19Streams() {
        checks.part("promise 19, streams");
        Counted x = new Counted();
        x.append(0, 1);
        x.read(0, 0, 0);
        x.remove(0);
        x.append(0, 2);
        x.append(0, 3);
        x.read(0, 0, 0);
        x.tick(5);
        x.read(0, 0, 1);
        checks.is("claim of one of two", 1, () -> x.claim(0, 0, 2, 5));
        x.append(1, 9);
        x.rewrite();
        x.writeOn(16);
        checks.is("rows since it was made", 6, () -> x.rows());
        String before = all(x);
        x.restart();
        checks.same("all", before, all(x));
        x.rewrite();
        x.writeOn(16);
        checks.is("rows behind a restart", 6, () -> x.rows());
        x.expire(0, 1);
        x.tick(1);
        x.append(0, 4);
        x.rewrite();
        x.writeOn(16);
        checks.is("rows since it was made anew", 2, () -> x.rows());
        x.restart();
        checks.same("its entries", "4", x.entries(0));
    }

    private static void promise20() {
        checks.part("promise 20");
        Counted x = new Counted();
        x.push(0, 1, true);
        x.expire(0, 10);
        x.tick(4);
        x.push(0, 2, true);
        x.tick(6);
        x.add(0, 3);
        x.expire(0, 10);
        x.push(1, 1, true);
        x.expire(1, 5);
        x.tick(5);
        x.sample(16);
        checks.is("held", 1, () -> x.held());
        checks.is("restart", 1, () -> x.restart());
        checks.is("held", 2, () -> x.held());
        checks.is("type of a value made anew", Compactforms.SET, () -> x.typeOf(0));
        checks.is("its end", 5, () -> x.left(0));
        checks.is("rows", 7, () -> x.rows());
        checks.is("the clock", 16, () -> x.tick(1));
        checks.is("restart again", 1, () -> x.restart());
        x.append(2, 1);
        x.append(2, 2);
        x.read(2, 0, 0);
        x.tick(2);
        x.read(2, 0, 1);
        x.claim(2, 0, 1, 1);
        x.tick(1);
        String before = all(x);
        checks.is("restart with a stream", 2, () -> x.restart());
        checks.same("all", before, all(x));
        checks.is("claim as of then", 0, () -> x.claim(2, 0, 0, 2));
        checks.is("claim as of then", 2, () -> x.claim(2, 0, 0, 1));
    }

    private static void promise20Forms() {
        checks.part("promise 20, forms");
        Counted x = new Counted();
        x.fillSet(0, 33);
        for (int i = 0; i < 17; i++) {
            x.take(0, i);
        }
        x.push(1, 300, true);
        x.push(1, 30, true);
        x.pop(1, false);
        x.restart();
        checks.is("buckets from the log of calls", 32, () -> x.next(0, 0));
        checks.is("form from the log of calls", Compactforms.BIG, () -> x.formOf(1));
        x.rewrite();
        x.writeOn(16);
        checks.is("buckets behind a rewriting", 32, () -> x.next(0, 0));
        checks.is("form behind a rewriting", Compactforms.BIG, () -> x.formOf(1));
        x.restart();
        checks.is("buckets from the new log", 8, () -> x.next(0, 0));
        checks.is("form from the new log", Compactforms.SMALL, () -> x.formOf(1));
        x.take(0, 17);
        for (int i = 0; i < 7; i++) {
            x.take(0, 18 + i);
        }
        x.rewrite();
        x.writeOn(2);
        x.restart();
        checks.is("form of the set", Compactforms.SMALL, () -> x.formOf(0));
        checks.same("the set", "25 26 27 28 29 30 31 32", x.entries(0));
    }

    private static void promise21() {
        checks.part("promise 21");
        Counted x = new Counted();
        x.push(0, 1, true);
        x.pop(0, true);
        x.rate(0, 1, ONE);
        x.rate(0, 1, ONE);
        x.append(1, 1);
        checks.is("rows", 5, () -> x.rows());
        x.add(2, 1);
        x.add(2, 1);
        x.take(2, 2);
        x.read(1, 0, 0);
        x.read(1, 0, 0);
        x.claim(1, 0, 0, 0);
        x.done(1, 0, 2);
        x.remove(9);
        x.expire(9, 1);
        checks.is("rows", 7, () -> x.rows());
        x.claim(1, 0, 1, 0);
        x.done(1, 0, 1);
        x.expire(1, 1);
        x.remove(1);
        x.take(2, 1);
        checks.is("rows", 12, () -> x.rows());
        x.tick(1);
        x.sample(1);
        x.held();
        Checks.answerOf(() -> x.push(99, 1, true));
        checks.is("rows", 12, () -> x.rows());
    }

    private static void promise21FullLog() {
        checks.part("promise 21, a full log");
        Counted x = new Counted();
        x.push(0, 1, true);
        x.add(1, 1);
        x.rate(2, 1, ONE);
        x.append(3, 1);
        x.fillLog(300);
        checks.is("rows", 300, () -> x.rows());
        checks.throwsState("push", () -> x.push(0, 1, true));
        checks.throwsState("pop", () -> x.pop(0, true));
        checks.throwsState("add", () -> x.add(1, 2));
        checks.throwsState("add of a member", () -> x.add(1, 1));
        checks.throwsState("take", () -> x.take(1, 1));
        checks.throwsState("take of no member", () -> x.take(1, 7));
        checks.throwsState("rate", () -> x.rate(2, 1, ONE));
        checks.throwsState("append", () -> x.append(3, 1));
        checks.throwsState("read", () -> x.read(3, 0, 0));
        checks.throwsState("done", () -> x.done(3, 0, 1));
        checks.throwsState("claim", () -> x.claim(3, 0, 0, 0));
        checks.throwsState("remove", () -> x.remove(0));
        checks.throwsState("remove of no key", () -> x.remove(9));
        checks.throwsState("expire", () -> x.expire(0, 1));
        checks.throwsState("expire of no key", () -> x.expire(9, 1));
        checks.throwsIndex("push to no key", () -> x.push(16, 1, true));
        checks.throwsArgument("expire in 0", () -> x.expire(0, 0));
        checks.is("tick", 1, () -> x.tick(1));
        checks.is("sample", 0, () -> x.sample(1));
        checks.is("rewrite", 4, () -> x.rewrite());
        checks.throwsState("push while rewriting", () -> x.push(0, 1, true));
        checks.is("writeOn", 0, () -> x.writeOn(4));
        checks.is("rows then", 4, () -> x.rows());
        checks.is("push then", 2, () -> x.push(0, 1, true));
    }

    private static void promise22() {
        checks.part("promise 22");
        Counted x = new Counted();
        x.push(1, 1, true);
        x.add(2, 1);
        x.rate(3, 1, ONE);
        x.append(4, 1);
        checks.is("types", "01234", () -> "" + x.typeOf(0) + x.typeOf(1) + x.typeOf(2) + x.typeOf(3) + x.typeOf(4));
        x.expire(4, 1);
        x.tick(1);
        checks.is("type of what is due", Compactforms.ABSENT, () -> x.typeOf(4));
    }

    private static void promise23() {
        checks.part("promise 23");
        Counted x = new Counted();
        checks.is("form of no key", 0, () -> x.formOf(0));
        x.push(0, 1, true);
        checks.is("form", Compactforms.SMALL, () -> x.formOf(0));
        x.push(0, 1000, true);
        checks.is("form", Compactforms.BIG, () -> x.formOf(0));
        x.expire(0, 1);
        x.tick(1);
        checks.is("form of what is due", 0, () -> x.formOf(0));
        x.append(0, 1000);
        checks.is("form of a new one", Compactforms.SMALL, () -> x.formOf(0));
    }

    private static void promise24() {
        checks.part("promise 24");
        Counted x = new Counted();
        checks.is("size of no key", 0, () -> x.size(0));
        x.fillList(0, 12);
        x.fillSet(1, 40);
        x.fillSorted(2, 3);
        x.fillStream(3, 17);
        checks.is("sizes", "12 40 3 17", () -> x.size(0) + " " + x.size(1) + " " + x.size(2) + " " + x.size(3));
        x.expire(3, 1);
        x.tick(1);
        checks.is("size of what is due", 0, () -> x.size(3));
    }

    private static void promise25() {
        checks.part("promise 25");
        Counted x = new Counted();
        checks.throwsIndex("at of no key", () -> x.at(0, 0));
        x.push(0, 3, true);
        x.push(0, 900, true);
        x.add(1, 900);
        x.add(1, 3);
        x.rate(2, 3, TWO);
        x.rate(2, 900, ONE);
        x.append(3, 900);
        x.append(3, 3);
        checks.is("at of a list", "3 900", () -> x.at(0, 0) + " " + x.at(0, 1));
        checks.is("at of a set", "3 900", () -> x.at(1, 0) + " " + x.at(1, 1));
        checks.is("at of a sorted one", "900 3", () -> x.at(2, 0) + " " + x.at(2, 1));
        checks.is("at of a stream", "900 3", () -> x.at(3, 0) + " " + x.at(3, 1));
        for (int key = 0; key < 4; key++) {
            int k = key;
            for (int index : new int[] {-1, 2, 40, Integer.MIN_VALUE, Integer.MAX_VALUE}) {
                checks.throwsIndex("at " + index, () -> x.at(k, index));
                checks.throwsIndex("atByPlain " + index, () -> x.atByPlain(k, index));
            }
        }
        x.expire(0, 1);
        x.tick(1);
        checks.throwsIndex("at of what is due", () -> x.at(0, 0));
    }

    private static void promise26() {
        checks.part("promise 26");
        Counted x = new Counted();
        checks.throwsIndex("atByPlain of no key", () -> x.atByPlain(0, 0));
        for (int i = 0; i < 40; i++) {
            int member = (i * 777) % 10000;
            x.push(0, member, i % 3 == 0);
            x.add(1, member);
            x.rate(2, member, (i % 5) * 0x100);
            x.append(3, member);
        }
        for (int key = 0; key < 4; key++) {
            int k = key;
            checks.is("a plain list beside a form", false, () -> x.entries(k).contains("?"));
        }
        checks.is("the first of a list", 38 * 777 % 10000, () -> x.atByPlain(0, 0));
        checks.is("the least of a set", 0, () -> x.atByPlain(1, 0));
        checks.is("the second of a sorted one", 15 * 777 % 10000, () -> x.atByPlain(2, 1));
        checks.is("the second of a stream", 777, () -> x.atByPlain(3, 1));
        x.expire(0, 1);
        x.tick(1);
        checks.throwsIndex("atByPlain of what is due", () -> x.atByPlain(0, 0));
    }

    private static void promise27() {
        checks.part("promise 27");
        Counted x = new Counted();
        checks.is("indexOf of no key", Compactforms.NONE, () -> x.indexOf(0, 1));
        for (int i = 0; i < 10; i++) {
            x.push(0, 100 + i % 3, true);
            x.add(1, 100 - i);
            x.rate(2, 100 - i, i % 2 == 0 ? TWO : ONE);
            x.append(3, 100 + i % 4);
        }
        checks.is("indexOf the first in a list", 2, () -> x.indexOf(0, 102));
        checks.is("indexOf in a set", 9, () -> x.indexOf(1, 100));
        checks.is("indexOf in a sorted one", 9, () -> x.indexOf(2, 100));
        checks.is("indexOf in a sorted one", 4, () -> x.indexOf(2, 99));
        checks.is("indexOf the first in a stream", 3, () -> x.indexOf(3, 103));
        for (int key = 0; key < 4; key++) {
            int k = key;
            checks.is("indexOf of none", Compactforms.NONE, () -> x.indexOf(k, 9999));
            checks.is("indexOf of none", Compactforms.NONE, () -> x.indexOf(k, 0));
        }
        for (int value : NO_VALUES) {
            checks.throwsArgument("indexOf " + value, () -> x.indexOf(0, value));
            checks.throwsArgument("indexOf " + value + " of no key", () -> x.indexOf(9, value));
        }
        x.expire(0, 1);
        x.tick(1);
        checks.is("indexOf of what is due", Compactforms.NONE, () -> x.indexOf(0, 102));
    }

    private static void promise28() {
        checks.part("promise 28");
        Counted x = new Counted();
        checks.throwsState("points of no key", () -> x.points(0, 1));
        int[] some = {
            0, MINUS_ZERO, 1, MINUS_ZERO | 1, 0x007fffff, 0x00800000, 0x00800001, ONE, MINUS_ONE, TWO, 0x3f7fffff,
            0x4b7fffff, 0x4b800000, 0x7f7fffff, 0xff7fffff, INFINITE, MINUS_INFINITE, 0x40490fdb, 0x1, 0x00400000,
        };
        for (int bits : some) {
            x.rate(0, 5, bits);
            checks.is("points of bits " + bits, Float.intBitsToFloat(bits), () -> x.points(0, 5));
        }
        for (int i = 0; i < 9; i++) {
            x.rate(1, i, ONE + i);
        }
        checks.is("points of a big one", Float.intBitsToFloat(ONE + 8), () -> x.points(1, 8));
        checks.throwsState("points of no member", () -> x.points(1, 9));
        for (int member : NO_VALUES) {
            checks.throwsArgument("points of " + member, () -> x.points(1, member));
            checks.throwsArgument("points of " + member + " of no key", () -> x.points(9, member));
        }
        x.add(2, 1);
        checks.throwsState("points of a set", () -> x.points(2, 1));
        x.expire(1, 1);
        x.tick(1);
        checks.throwsState("points of what is due", () -> x.points(1, 1));
    }

    private static void promise29() {
        checks.part("promise 29");
        Counted x = new Counted();
        checks.throwsState("next of no key", () -> x.next(0, 0));
        x.push(1, 1, true);
        checks.throwsState("next of a list", () -> x.next(1, 0));
        x.fillSet(0, 8);
        checks.is("next of a small one", 0, () -> x.next(0, 5));
        for (int cursor : new int[] {-1, 1024, Integer.MIN_VALUE, Integer.MAX_VALUE}) {
            checks.throwsArgument("next of " + cursor, () -> x.next(0, cursor));
        }
        int[] most = {16, 32, 40};
        int size = 8;
        for (int i = 0; i < 3; i++) {
            for (; size < most[i]; size++) {
                x.add(0, size);
            }
            int bits = 4 + i;
            int seen = 0;
            int cursor = 0;
            do {
                int from = cursor;
                int due = Integer.reverse((Integer.reverse(from) >>> (32 - bits)) + 1 & (1 << bits) - 1) >>> (32 - bits);
                checks.is("next of " + from, due, () -> x.next(0, from));
                cursor = due;
                seen++;
            } while (cursor != 0);
            checks.same("steps of a scan", 1 << bits, seen);
            checks.is("next of the last one", 0, () -> x.next(0, 1023));
            checks.is("next of what is above", x.next(0, 5), () -> x.next(0, 5 + 512));
        }
    }

    private static void promise30() {
        checks.part("promise 30");
        Counted x = new Counted();
        checks.throwsState("scanned of no key", () -> x.scanned(0, 0, 0));
        x.rate(1, 1, ONE);
        checks.throwsState("scanned of a sorted one", () -> x.scanned(1, 0, 0));
        x.add(0, 48);
        x.add(0, 32);
        checks.is("scanned of a small one", "32 48 -1", () -> x.scanned(0, 77, 0) + " " + x.scanned(0, 0, 1) + " "
            + x.scanned(0, 0, 2));
        for (int cursor : new int[] {-1, 1024, Integer.MIN_VALUE, Integer.MAX_VALUE}) {
            checks.throwsArgument("scanned of " + cursor, () -> x.scanned(0, cursor, 0));
        }
        for (int member : new int[] {544, 64, 80, 96, 112, 128, 144}) {
            x.add(0, member);
        }
        checks.is("scanned of bucket 1", "32 48 544 -1", () -> x.scanned(0, 1, 0) + " " + x.scanned(0, 17, 1) + " "
            + x.scanned(0, 1009, 2) + " " + x.scanned(0, 1, 3));
        checks.is("scanned of bucket 0", Compactforms.NONE, () -> x.scanned(0, 0, 0));
        for (int index : new int[] {-1, 40, Integer.MIN_VALUE, Integer.MAX_VALUE}) {
            checks.is("scanned " + index, Compactforms.NONE, () -> x.scanned(0, 1, index));
        }
        x.take(0, 32);
        checks.is("scanned without it", 48, () -> x.scanned(0, 1, 0));
        x.take(0, 544);
        checks.is("scanned without the last one", Compactforms.NONE, () -> x.scanned(0, 1, 1));
        promise30WholeScan();
    }

    private static void promise30WholeScan() {
        Counted x = new Counted();
        java.util.TreeSet<Integer> added = new java.util.TreeSet<>();
        for (int i = 0; i < 40; i++) {
            x.add(0, i * 251 % 10000);
            added.add(i * 251 % 10000);
        }
        java.util.TreeSet<Integer> seen = new java.util.TreeSet<>();
        int cursor = 0;
        do {
            int before = Compactforms.NONE;
            for (int i = 0; x.scanned(0, cursor, i) != Compactforms.NONE; i++) {
                int member = x.scanned(0, cursor, i);
                checks.same("bucket of " + member, cursor, (193 * member + member / 32) % 64);
                checks.same("order of " + member, true, member > before);
                seen.add(member);
                before = member;
            }
            cursor = x.next(0, cursor);
        } while (cursor != 0);
        checks.same("a whole scan", added, seen);
    }

    // ---- exceptions

    private static void wrongKeys() {
        checks.part("wrong keys");
        Counted x = new Counted();
        for (int key : NO_KEYS) {
            checks.throwsIndex("push", () -> x.push(key, 1, true));
            checks.throwsIndex("pop", () -> x.pop(key, true));
            checks.throwsIndex("add", () -> x.add(key, 1));
            checks.throwsIndex("take", () -> x.take(key, 1));
            checks.throwsIndex("rate", () -> x.rate(key, 1, ONE));
            checks.throwsIndex("append", () -> x.append(key, 1));
            checks.throwsIndex("read", () -> x.read(key, 0, 0));
            checks.throwsIndex("done", () -> x.done(key, 0, 1));
            checks.throwsIndex("claim", () -> x.claim(key, 0, 0, 0));
            checks.throwsIndex("waiting", () -> x.waiting(key, 0, 0));
            checks.throwsIndex("remove", () -> x.remove(key));
            checks.throwsIndex("expire", () -> x.expire(key, 1));
            checks.throwsIndex("left", () -> x.left(key));
            checks.throwsIndex("typeOf", () -> x.typeOf(key));
            checks.throwsIndex("formOf", () -> x.formOf(key));
            checks.throwsIndex("size", () -> x.size(key));
            checks.throwsIndex("at", () -> x.at(key, 0));
            checks.throwsIndex("atByPlain", () -> x.atByPlain(key, 0));
            checks.throwsIndex("indexOf", () -> x.indexOf(key, 1));
            checks.throwsIndex("points", () -> x.points(key, 1));
            checks.throwsIndex("next", () -> x.next(key, 0));
            checks.throwsIndex("scanned", () -> x.scanned(key, 0, 0));
        }
    }

    private static void orderOfExceptions() {
        checks.part("the order of exceptions");
        Counted x = new Counted();
        x.add(0, 1);
        x.push(1, 1, true);
        checks.throwsIndex("push", () -> x.push(-1, -1, true));
        checks.throwsArgument("push", () -> x.push(0, -1, true));
        checks.throwsIndex("add", () -> x.add(-1, -1));
        checks.throwsArgument("add", () -> x.add(1, -1));
        checks.throwsIndex("take", () -> x.take(-1, -1));
        checks.throwsArgument("take", () -> x.take(1, -1));
        checks.throwsIndex("rate", () -> x.rate(-1, -1, -1));
        checks.throwsArgument("rate", () -> x.rate(1, 1, -1));
        checks.throwsArgument("rate", () -> x.rate(1, -1, ONE));
        checks.throwsIndex("append", () -> x.append(-1, -1));
        checks.throwsArgument("append", () -> x.append(1, -1));
        checks.throwsIndex("read", () -> x.read(1, 3, 0));
        checks.throwsIndex("read", () -> x.read(1, 0, 4));
        checks.throwsIndex("done", () -> x.done(1, 3, 0));
        checks.throwsIndex("claim", () -> x.claim(1, 3, 0, -1));
        checks.throwsIndex("claim", () -> x.claim(1, 0, 4, -1));
        checks.throwsArgument("claim", () -> x.claim(1, 0, 0, -1));
        checks.throwsIndex("expire", () -> x.expire(-1, 0));
        checks.throwsArgument("writeOn", () -> x.writeOn(0));
        checks.throwsIndex("indexOf", () -> x.indexOf(-1, -1));
        checks.throwsIndex("points", () -> x.points(-1, -1));
        checks.throwsArgument("points", () -> x.points(1, -1));
        checks.throwsIndex("next", () -> x.next(-1, -1));
        checks.throwsArgument("next", () -> x.next(1, -1));
        checks.throwsIndex("scanned", () -> x.scanned(-1, -1, -1));
        checks.throwsArgument("scanned", () -> x.scanned(1, -1, -1));
    }

    private static void throwingChangesNothing() {
        checks.part("a call that throws");
        Counted x = new Counted();
        x.fillList(0, 2);
        x.add(1, 3);
        x.rate(2, 3, ONE);
        x.append(3, 3);
        x.read(3, 0, 0);
        x.expire(3, 10);
        x.push(4, 1, true);
        x.expire(4, 1);
        x.tick(1);
        x.rewrite();
        x.writeOn(1);
        String before = all(x);
        Checks.answerOf(() -> x.push(1, 3, true));
        Checks.answerOf(() -> x.push(4, -3, true));
        Checks.answerOf(() -> x.pop(4, true));
        Checks.answerOf(() -> x.add(0, 3));
        Checks.answerOf(() -> x.take(4, 1));
        Checks.answerOf(() -> x.rate(2, 3, -1));
        Checks.answerOf(() -> x.rate(2, -1, ONE));
        Checks.answerOf(() -> x.append(2, 1));
        Checks.answerOf(() -> x.read(3, 0, 4));
        Checks.answerOf(() -> x.done(2, 0, 1));
        Checks.answerOf(() -> x.claim(3, 0, 1, -1));
        Checks.answerOf(() -> x.expire(3, 0));
        Checks.answerOf(() -> x.tick(0));
        Checks.answerOf(() -> x.sample(0));
        Checks.answerOf(() -> x.writeOn(0));
        checks.same("all", before, all(x));
        checks.is("the clock", 2, () -> x.tick(1));
        checks.is("the rewriting", 2, () -> x.writeOn(1));
        checks.is("the key that is due", 1, () -> x.sample(2));
    }
}
