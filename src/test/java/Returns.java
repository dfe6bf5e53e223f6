/** What each method does and answers, promise by promise, at the boundaries that its clauses name. */
final class Returns {
    private static final int NONE = Compactforms.NONE, ABSENT = Compactforms.ABSENT, LIST = Compactforms.LIST;
    private static final int SET = Compactforms.SET, SORTED = Compactforms.SORTED, STREAM = Compactforms.STREAM;
    private static final int SMALL = Compactforms.SMALL, BIG = Compactforms.BIG;

    private final Checks checks;

    Returns(Checks checks) {
        this.checks = checks;
    }

    void all() {
        constants();
        aNewObject();
        push();
        pop();
        add();
        take();
        rate();
        append();
        read();
        done();
        claim();
        waiting();
        remove();
        expire();
        left();
        tick();
        sample();
        sampleComesRound();
        sampleSkips();
        sampleDue();
        held();
        rewrite();
        rewriteOfNoKeys();
        writeOn();
        restart();
        rows();
        typeOf();
        formOf();
        size();
        at();
        atByPlain();
        indexOf();
        points();
        next();
        scanned();
    }

    private void constants() {
        checks.says("Exceptions", "The constants: `NONE = -1`: There is none.");
        checks.same("NONE", -1, NONE);
        checks.says("Exceptions", "`ABSENT = 0, LIST = 1, SET = 2, SORTED = 3, STREAM = 4`: Types of keys;");
        checks.same("types", "0 1 2 3 4", ABSENT + " " + LIST + " " + SET + " " + SORTED + " " + STREAM);
        checks.says("Exceptions", "ABSENT if it is not there.");
        Counted x = new Counted();
        checks.is("a key that is not there", 0, () -> x.typeOf(0));
        checks.says("Exceptions", "`SMALL = 1, BIG = 2`: Forms.");
        checks.same("forms", "1 2", SMALL + " " + BIG);
    }

    private void aNewObject() {
        checks.says("Promise 1:", "No keys, the clock 0, an empty log.");
        aNewObjectAtOnce();
        Counted x = new Counted();
        for (int key = 0; key <= 15; key++) {
            int k = key;
            checks.is("typeOf", ABSENT, () -> x.typeOf(k));
            checks.is("formOf", 0, () -> x.formOf(k));
            checks.is("size", 0, () -> x.size(k));
            checks.is("left", 0, () -> x.left(k));
            checks.is("remove", false, () -> x.remove(k));
        }
        checks.is("held", 0, () -> x.held());
        checks.is("rows", 0, () -> x.rows());
        checks.is("restart", 0, () -> x.restart());
        checks.is("sample", 0, () -> x.sample(16));
        checks.throwsState("writeOn", () -> x.writeOn(16));
        checks.is("the clock", 1, () -> x.tick(1));
        Counted y = new Counted();
        for (int i = 1; i <= 300; i++) {
            int row = i;
            checks.answers("row " + row, () -> row % 2 == 1 ? y.push(0, 1, true) : y.pop(0, true));
        }
        checks.throwsState("row 301", () -> y.push(0, 1, true));
    }

    /** Each question and each call that needs something, as the very first call. */
    private void aNewObjectAtOnce() {
        checks.throwsState("writeOn first", () -> new Counted().writeOn(1));
        checks.is("restart first", 0, () -> new Counted().restart());
        checks.is("rewrite first", 0, () -> new Counted().rewrite());
        checks.is("sample first", 0, () -> new Counted().sample(1));
        checks.is("tick first", 1000, () -> new Counted().tick(1000));
        checks.is("held first", 0, () -> new Counted().held());
        checks.is("rows first", 0, () -> new Counted().rows());
        for (int key : new int[] {0, 15}) {
            checks.throwsState("pop first", () -> new Counted().pop(key, true));
            checks.throwsState("take first", () -> new Counted().take(key, 0));
            checks.throwsState("read first", () -> new Counted().read(key, 0, 0));
            checks.throwsState("done first", () -> new Counted().done(key, 0, 0));
            checks.throwsState("claim first", () -> new Counted().claim(key, 0, 0, 0));
            checks.throwsState("points first", () -> new Counted().points(key, 0));
            checks.throwsState("next first", () -> new Counted().next(key, 0));
            checks.throwsState("scanned first", () -> new Counted().scanned(key, 0, 0));
            checks.throwsIndex("at first", () -> new Counted().at(key, 0));
            checks.throwsIndex("atByPlain first", () -> new Counted().atByPlain(key, 0));
            checks.is("expire first", false, () -> new Counted().expire(key, 1));
            checks.is("remove first", false, () -> new Counted().remove(key));
            checks.is("indexOf first", NONE, () -> new Counted().indexOf(key, 0));
            checks.is("waiting first", 0, () -> new Counted().waiting(key, 0, 0));
        }
    }

    // ---- lists, sets, sorted ones

    private void push() {
        checks.says("Promise 2:", "Pushes an entry to a LIST.");
        Counted x = new Counted();
        checks.is("push that makes a list", 1, () -> x.push(0, 0, false));
        checks.is("its type", LIST, () -> x.typeOf(0));
        checks.says("Promise 2:", "`atEnd`: whether at its end, otherwise at its beginning");
        x.push(0, 1, true);
        x.push(0, 2, false);
        x.push(0, 3, true);
        checks.is("entries", "2 0 1 3", () -> x.entries(0));
        checks.says("Promise 2:", "Returns how many entries it has then.");
        for (int many = 5; many <= 40; many++) {
            int m = many;
            checks.is("push", m, () -> x.push(0, m, m % 2 == 0));
            checks.is("where it is", m, () -> x.at(0, m % 2 == 0 ? m - 1 : 0));
        }
    }

    private void pop() {
        checks.says("Promise 3:", "Pops an entry of a LIST.");
        checks.says("Promise 3:", "`atEnd`: whether from its end, otherwise from its beginning");
        checks.says("Promise 3:", "Returns the entry.");
        for (int many : new int[] {1, 2, 8, 9, 40}) {
            for (int way = 0; way < 3; way++) {
                Counted x = new Counted();
                x.fill(LIST, 0, many);
                int first = 0;
                int last = many - 1;
                for (int i = 0; i < many; i++) {
                    boolean atEnd = way == 0 || way == 1 && i % 2 == 0;
                    int due = atEnd ? last-- : first++;
                    int left = many - 1 - i;
                    checks.is("pop", due, () -> x.pop(0, atEnd));
                    checks.is("size", left, () -> x.size(0));
                }
                checks.throwsState("pop of what is empty", () -> x.pop(0, true));
            }
        }
    }

    private void add() {
        checks.says("Promise 4:", "Adds a member to a SET.");
        checks.says("Promise 4:", "Returns whether it was none.");
        for (int many : new int[] {1, 8, 9, 16, 17, 32, 33, 40}) {
            Counted x = new Counted();
            for (int i = 0; i < many; i++) {
                int member = i * 4001 % 10000;
                checks.is("add", true, () -> x.add(0, member));
                checks.is("add again", false, () -> x.add(0, member));
            }
            for (int i = 0; i < many; i++) {
                int member = i * 4001 % 10000;
                checks.is("add of a member", false, () -> x.add(0, member));
            }
            checks.is("size", many, () -> x.size(0));
            checks.is("type", SET, () -> x.typeOf(0));
        }
    }

    private void take() {
        checks.says("Promise 5:", "Takes a member out of a SET or SORTED.");
        checks.says("Promise 5:", "Returns whether it was one.");
        for (int type = SET; type <= SORTED; type++) {
            for (int many : new int[] {2, 6, 7, 8, 9, 40}) {
                Counted x = new Counted();
                x.fill(type, 0, many);
                checks.is("take of none", false, () -> x.take(0, many));
                checks.is("take of none", false, () -> x.take(0, 9999));
                for (int i = 0; i < many - 1; i++) {
                    int member = i;
                    checks.is("take", true, () -> x.take(0, member));
                    checks.is("take again", false, () -> x.take(0, member));
                    checks.is("size", many - 1 - i, () -> x.size(0));
                    checks.is("place of it", NONE, () -> x.indexOf(0, member));
                }
                checks.is("what is left", "" + (many - 1), () -> x.entries(0));
                checks.is("take of the last one", true, () -> x.take(0, many - 1));
                checks.throwsState("take behind it", () -> x.take(0, many - 1));
            }
        }
    }

    private void rate() {
        checks.says("Promise 6:", "Gives points to a member of a SORTED;");
        Counted x = new Counted();
        checks.is("rate that makes one", 0, () -> x.rate(0, 7, Bits.ONE));
        checks.is("its type", SORTED, () -> x.typeOf(0));
        checks.is("rate again", 0, () -> x.rate(0, 7, Bits.TWO));
        checks.is("its points", 2f, () -> x.points(0, 7));
        checks.is("size", 1, () -> x.size(0));
        checks.says("Promise 6:", "it becomes one, if it is none.");
        checks.is("rate of another", 0, () -> x.rate(0, 6, Bits.ONE));
        checks.is("size", 2, () -> x.size(0));
        checks.says("Promise 6:", "Returns its rank then, 0 for the first one.");
        for (int many : new int[] {6, 7, 40}) {
            Counted y = new Counted();
            y.fill(SORTED, 0, many);
            for (int i = 0; i < many; i++) {
                int member = i;
                checks.is("rate to the end", many - 1, () -> y.rate(0, member, Bits.INFINITE));
            }
            for (int i = 0; i < many; i++) {
                int member = i;
                checks.is("rate to what is behind those ahead", member, () -> y.rate(0, member, Bits.ONE));
            }
            for (int i = many - 1; i >= 0; i--) {
                int member = i;
                checks.is("rate to the beginning", 0, () -> y.rate(0, member, Bits.MINUS_INFINITE));
            }
            checks.is("size", many, () -> y.size(0));
        }
    }

    // ---- streams

    private void append() {
        checks.says("Promise 7:", "Appends an entry to a STREAM.");
        checks.says("Promise 7:", "Returns its number.");
        Counted x = new Counted();
        for (int number = 1; number <= 40; number++) {
            int n = number;
            checks.is("append", n, () -> x.append(0, 40 - n));
            checks.is("the entry", 40 - n, () -> x.at(0, n - 1));
        }
        checks.is("type", STREAM, () -> x.typeOf(0));
    }

    private void read() {
        checks.says("Promise 8:", "Lets a group of a STREAM read for a reader.");
        checks.says("Promise 8:", "Returns the number of the entry;");
        Counted x = new Counted();
        x.append(0, 9999);
        x.append(0, 0);
        checks.is("read", 1, () -> x.read(0, 2, 3));
        checks.is("read", 2, () -> x.read(0, 2, 0));
        checks.is("who waits", "1 0 0 1", () -> x.waits(0, 2));
        checks.says("Promise 8:", "NONE if there is none.");
        checks.is("read of no more", NONE, () -> x.read(0, 2, 1));
        checks.is("who waits", "1 0 0 1", () -> x.waits(0, 2));
        checks.is("rows", 4, () -> x.rows());
    }

    private void done() {
        checks.says("Promise 9:", "Tells that an entry is done for a group.");
        checks.says("Promise 9:", "`entry`: its number");
        checks.says("Promise 9:", "Returns whether it waited.");
        Counted x = new Counted();
        x.fill(STREAM, 0, 3);
        x.read(0, 0, 0);
        x.read(0, 0, 1);
        x.read(0, 1, 0);
        for (int entry : new int[] {Integer.MIN_VALUE, -1, 0, 3, 4, 41, Integer.MAX_VALUE}) {
            checks.is("done of " + entry, false, () -> x.done(0, 0, entry));
        }
        checks.is("done of the last that waits", true, () -> x.done(0, 0, 2));
        checks.is("done of the first that waits", true, () -> x.done(0, 0, 1));
        checks.is("done of it again", false, () -> x.done(0, 0, 1));
        checks.is("done of it in another group", true, () -> x.done(0, 1, 1));
        checks.is("done in a group that has not read", false, () -> x.done(0, 2, 1));
    }

    private void claim() {
        checks.says("Promise 10:", "Lets a reader claim entries.");
        checks.says("Promise 10:", "Returns how many it gets.");
        Counted x = new Counted();
        x.fill(STREAM, 0, 4);
        checks.is("claim of none", 0, () -> x.claim(0, 0, 0, 0));
        for (int i = 0; i < 4; i++) {
            x.read(0, 0, i);
            x.tick(250);
        }
        checks.is("claim with 1000", 1, () -> x.claim(0, 0, 3, 1000));
        checks.is("claim with 751", 0, () -> x.claim(0, 0, 3, 751));
        checks.is("claim with 750", 1, () -> x.claim(0, 0, 3, 750));
        checks.is("claim with 0", 1, () -> x.claim(0, 0, 3, 0));
        checks.is("who waits", "0 0 0 4", () -> x.waits(0, 0));
        checks.is("claim of all for another with 1", 1, () -> x.claim(0, 0, 0, 1));
        checks.is("claim of all for another with 0", 3, () -> x.claim(0, 0, 0, 0));
    }

    private void waiting() {
        checks.says("Promise 11:", "Returns how many entries wait for a reader.");
        checks.says("Promise 11:", "Returns how many;");
        Counted x = new Counted();
        x.fill(STREAM, 0, 40);
        checks.is("waiting at first", 0, () -> x.waiting(0, 2, 3));
        for (int many = 1; many <= 40; many++) {
            int m = many;
            x.read(0, 2, 3);
            checks.is("waiting", m, () -> x.waiting(0, 2, 3));
        }
        checks.is("waiting for others", "0 0 0", () -> x.waiting(0, 2, 0) + " " + x.waiting(0, 2, 2) + " "
            + x.waiting(0, 1, 3));
        checks.says("Promise 11:", "0 if the key is no STREAM.");
        for (int type = LIST; type <= SORTED; type++) {
            int t = type;
            x.fill(type, type, 20);
            for (int group = 0; group <= 2; group++) {
                int g = group;
                checks.is("who waits in type " + type, "0 0 0 0", () -> x.waits(t, g));
            }
        }
        checks.is("waiting of no key", 0, () -> x.waiting(15, 2, 3));
        x.remove(0);
        x.push(0, 1, true);
        checks.is("waiting of what was a stream", 0, () -> x.waiting(0, 2, 3));
    }

    // ---- keys, the clock

    private void remove() {
        checks.says("Promise 12:", "Removes a key.");
        checks.says("Promise 12:", "Returns whether it was there.");
        for (int type = LIST; type <= STREAM; type++) {
            for (int many : new int[] {1, 40}) {
                Counted x = new Counted();
                x.fill(type, 0, many);
                x.fill(type, 15, 1);
                checks.is("remove", true, () -> x.remove(0));
                checks.is("remove again", false, () -> x.remove(0));
                checks.is("its type", ABSENT, () -> x.typeOf(0));
                checks.is("held", 1, () -> x.held());
                x.expire(15, 1);
                checks.is("remove ahead of the end", true, () -> x.remove(15));
                x.fill(type, 15, 1);
                x.expire(15, 1);
                x.tick(1);
                checks.is("remove at the end", false, () -> x.remove(15));
                checks.is("held though due", 1, () -> x.held());
                checks.is("remove of what never was", false, () -> x.remove(7));
            }
        }
    }

    private void expire() {
        checks.says("Promise 13:", "Gives an end to a key, in place of one that it has.");
        Counted x = new Counted();
        x.push(0, 1, true);
        for (int ticks : new int[] {1000, 1, 500, 2}) {
            checks.is("expire", true, () -> x.expire(0, ticks));
            checks.is("left", ticks, () -> x.left(0));
        }
        x.tick(1);
        checks.is("expire one tick ahead of the end", true, () -> x.expire(0, 1));
        x.tick(1);
        checks.says("Promise 13:", "Returns whether the key is there.");
        checks.is("expire at the end", false, () -> x.expire(0, 1));
        checks.is("it is due still", ABSENT, () -> x.typeOf(0));
        checks.is("expire of no key", false, () -> x.expire(15, 1000));
        checks.says("Promise 13:", "`ticks`: 1 to 1000: how far behind the clock");
        for (int ticks : new int[] {1, 1000}) {
            Counted y = new Counted();
            y.tick(7);
            y.push(0, 1, true);
            y.expire(0, ticks);
            for (int i = 0; i < ticks - 1; i += 333) {
                checks.is("left", ticks - i, () -> y.left(0));
                y.tick(333);
            }
            checks.is("one tick ahead", 1, () -> y.left(0));
            checks.is("there", LIST, () -> y.typeOf(0));
            y.tick(1);
            checks.is("not there", ABSENT, () -> y.typeOf(0));
        }
    }

    private void left() {
        checks.says("Promise 14:", "Returns how many ticks a key has left.");
        checks.says("Promise 14:", "Returns how many;");
        Counted x = new Counted();
        x.push(0, 1, true);
        x.push(1, 1, true);
        x.expire(0, 3);
        for (int left = 3; left >= 1; left--) {
            int l = left;
            checks.is("left", l, () -> x.left(0));
            x.tick(1);
        }
        checks.says("Promise 14:", "0 if it is not there;");
        checks.is("left at the end", 0, () -> x.left(0));
        x.tick(1000);
        checks.is("left far behind the end", 0, () -> x.left(0));
        x.sample(1);
        checks.is("left of what was sampled", 0, () -> x.left(0));
        checks.is("left of what never was", 0, () -> x.left(15));
        checks.says("Promise 14:", "NONE if it has no end.");
        checks.is("left of what has no end", NONE, () -> x.left(1));
        x.remove(1);
        checks.is("left of what was removed", 0, () -> x.left(1));
    }

    private void tick() {
        checks.says("Promise 15:", "Lets the clock tick.");
        checks.says("Promise 15:", "Returns the clock then.");
        Counted x = new Counted();
        checks.is("tick", 1, () -> x.tick(1));
        checks.is("tick", 1001, () -> x.tick(1000));
        checks.is("tick", 2000, () -> x.tick(999));
        checks.throwsArgument("tick of 0", () -> x.tick(0));
        checks.throwsArgument("tick of 1001", () -> x.tick(1001));
        checks.is("tick behind those", 2001, () -> x.tick(1));
    }

    /** Keys with the ends 1 and 2, in turn, one tick behind: those of even numbers are due. */
    private static Counted halfDue(int... keys) {
        Counted x = new Counted();
        for (int key : keys) {
            x.push(key, 1, true);
            x.expire(key, 1 + key % 2);
        }
        x.tick(1);
        return x;
    }

    private void sample() {
        checks.says("Promise 16:", "at first from 0 on");
        Counted x = halfDue(0, 1, 2, 14, 15);
        checks.is("sample of 0", 1, () -> x.sample(1));
        checks.is("held", 4, () -> x.held());
        checks.says("Promise 16:", "goes on from the key behind the one that was sampled last, due or not");
        checks.is("sample of 1, not due", 0, () -> x.sample(1));
        checks.is("sample of 2", 1, () -> x.sample(1));
        checks.is("held", 3, () -> x.held());
        checks.is("sample of 14 and 15", 1, () -> x.sample(2));
        checks.is("held", 2, () -> x.held());
        checks.says("Promise 16:", "until so many were sampled");
        Counted y = halfDue(0, 2, 4, 6, 8, 10, 12, 14);
        for (int i = 1; i <= 3; i++) {
            int many = i;
            checks.is("sample of " + many, many, () -> y.sample(many));
        }
        checks.is("held", 2, () -> y.held());
        checks.is("sample of more than there are", 2, () -> y.sample(3));
        checks.is("held", 0, () -> y.held());
    }

    private void sampleComesRound() {
        checks.says("Promise 16:", "from 15 to 0");
        Counted x = halfDue(1, 14, 15);
        checks.is("sample of 1, 14 and 15", 1, () -> x.sample(3));
        x.append(0, 1);
        x.expire(0, 1);
        x.tick(1);
        checks.is("sample of 0 behind 15", 1, () -> x.sample(1));
        checks.is("held", 2, () -> x.held());
        checks.is("sample of 1", 1, () -> x.sample(1));
        checks.is("what is held", 1, () -> x.held());
        checks.says("Promise 16:", "or all keys were passed once;");
        Counted y = new Counted();
        for (int key = 0; key <= 15; key++) {
            y.add(key, 1);
            y.expire(key, 2);
        }
        y.tick(1);
        checks.is("sample of 16, none due", 0, () -> y.sample(16));
        checks.is("sample of 0 to 4", 0, () -> y.sample(5));
        y.tick(1);
        checks.is("sample of 5 to 15 and 0 to 3", 15, () -> y.sample(15));
        checks.is("held", 1, () -> y.held());
        y.restart();
        checks.is("sample of 4", 1, () -> y.sample(1));
        checks.is("sample of all others", 15, () -> y.sample(16));
        Counted two = new Counted();
        two.push(0, 1, true);
        two.push(5, 1, true);
        two.expire(0, 1);
        two.expire(5, 1000);
        checks.is("sample of 0 and 5, and not of 0 again", 0, () -> two.sample(16));
        two.tick(1);
        checks.is("sample of what is behind 5", 1, () -> two.sample(1));
        Counted some = new Counted();
        some.push(3, 1, true);
        some.push(5, 1, true);
        some.expire(3, 1000);
        some.expire(5, 1000);
        checks.is("sample of 3 and 5, though all were passed", 0, () -> some.sample(16));
        some.push(10, 1, true);
        some.expire(10, 1);
        some.tick(1);
        checks.is("sample of 10, behind 5", 1, () -> some.sample(1));
        Counted z = new Counted();
        z.push(7, 1, true);
        z.expire(7, 1);
        checks.is("sample of 7 alone", 0, () -> z.sample(16));
        z.tick(1);
        checks.is("sample of 7 again, all other keys passed", 1, () -> z.sample(1));
        checks.is("held", 0, () -> z.held());
    }

    private void sampleSkips() {
        checks.says("Promise 16:", "over the keys that are held with an end");
        Counted x = new Counted();
        x.push(0, 1, true);
        x.push(1, 1, true);
        x.push(3, 1, true);
        x.expire(3, 1);
        x.push(4, 1, true);
        x.expire(4, 1);
        x.tick(1);
        x.push(3, 1, true);
        checks.is("sample passes those without an end", 1, () -> x.sample(1));
        checks.is("held", 3, () -> x.held());
        checks.is("sample of none", 0, () -> x.sample(16));
        x.expire(3, 1);
        x.expire(1, 1);
        x.remove(1);
        x.push(0, 2, true);
        x.expire(0, 1);
        x.pop(0, true);
        x.tick(1);
        // The one sampled last is 4 still, for sampling none leaves it.
        checks.is("sample of 0", 1, () -> x.sample(1));
        checks.is("what is held", ABSENT, () -> x.typeOf(3));
        checks.is("sample of 3", 1, () -> x.sample(1));
        checks.is("held", 0, () -> x.held());
    }

    private void sampleDue() {
        checks.says("Promise 16:", "those that are due are held no more.");
        checks.says("Promise 16:", "Returns how many of them were due.");
        Counted x = halfDue(0, 1, 2, 3, 4, 5, 6, 7, 8, 9, 10, 11, 12, 13, 14, 15);
        checks.is("sample of all", 8, () -> x.sample(16));
        checks.is("held", 8, () -> x.held());
        for (int key = 0; key <= 15; key++) {
            int k = key;
            checks.is("type of " + key, key % 2 == 0 ? ABSENT : LIST, () -> x.typeOf(k));
        }
        checks.is("sample of those that are left", 0, () -> x.sample(16));
        x.tick(1);
        checks.is("sample of those that are left, due", 8, () -> x.sample(8));
        checks.is("held", 0, () -> x.held());
    }

    private void held() {
        checks.says("Promise 17:", "Returns how many keys are held.");
        Counted x = new Counted();
        checks.is("held at first", 0, () -> x.held());
        for (int key = 0; key <= 15; key++) {
            int many = key + 1;
            x.fill(1 + key % 4, key, 1);
            checks.is("held", many, () -> x.held());
        }
        x.expire(15, 1);
        x.tick(1);
        checks.is("held with one due", 16, () -> x.held());
        x.append(15, 1);
        checks.is("held with it made anew", 16, () -> x.held());
        for (int key = 0; key <= 15; key++) {
            int left = 15 - key;
            x.remove(key);
            checks.is("held", left, () -> x.held());
        }
    }

    // ---- the log

    private void rewrite() {
        checks.says("Promise 18:", "Begins to rewrite the log, in place of a rewriting that goes on.");
        checks.says("Promise 18:", "Returns how many keys are to be written.");
        Counted x = new Counted();
        for (int key = 0; key <= 15; key++) {
            int many = key + 1;
            x.push(key, 1, true);
            checks.is("rewrite", many, () -> x.rewrite());
        }
        x.writeOn(7);
        checks.is("rewrite in place of one half done", 16, () -> x.rewrite());
        checks.is("writeOn", 15, () -> x.writeOn(1));
        checks.is("rows", 16, () -> x.rows());
    }

    private void rewriteOfNoKeys() {
        checks.says("Promise 18:", "It goes on until writeOn() tells 0, also if there are no keys.");
        Counted x = new Counted();
        checks.is("rewrite of no keys", 0, () -> x.rewrite());
        checks.is("rewrite again", 0, () -> x.rewrite());
        x.push(0, 1, true);
        x.push(0, 2, true);
        checks.is("writeOn", 0, () -> x.writeOn(1));
        checks.throwsState("writeOn again", () -> x.writeOn(1));
        checks.is("rows", 2, () -> x.rows());
        x.remove(0);
        checks.is("rewrite of no keys behind some", 0, () -> x.rewrite());
        checks.is("rows still", 3, () -> x.rows());
        checks.is("writeOn", 0, () -> x.writeOn(16));
        checks.is("rows", 0, () -> x.rows());
        x.push(0, 1, true);
        x.rewrite();
        checks.is("rewriting goes on behind many calls", 1, () -> x.tick(1));
        x.remove(0);
        checks.is("writeOn", 0, () -> x.writeOn(1));
        checks.is("rows of one key and its removal", 2, () -> x.rows());
    }

    private void writeOn() {
        checks.says("Promise 19:", "Goes on with rewriting.");
        checks.says("Promise 19:", "`keys`: 1 to 16: how many keys are written now, if there are so many");
        checks.says("Promise 19:", "Returns how many are to be written still;");
        for (int keys = 1; keys <= 16; keys++) {
            Counted x = new Counted();
            for (int key = 0; key <= 15; key++) {
                x.push(key, 1, true);
                x.push(key, 2, false);
                x.pop(key, true);
            }
            x.rewrite();
            int now = keys;
            for (int left = 16 - keys; left > 0; left -= keys) {
                int due = left;
                checks.is("writeOn(" + keys + ")", due, () -> x.writeOn(now));
            }
            checks.is("rows", 48, () -> x.rows());
            checks.is("writeOn of the last ones", 0, () -> x.writeOn(now));
            checks.says("Promise 19:", "with 0 the log is the new one.");
            checks.is("rows", 16, () -> x.rows());
            checks.throwsState("writeOn behind it", () -> x.writeOn(now));
            checks.is("restart", 16, () -> x.restart());
        }
    }

    private void restart() {
        checks.says("Promise 20:", "Restarts the server from its log.");
        checks.says("Promise 20:", "Returns how many keys are there then.");
        Counted x = new Counted();
        for (int key = 0; key <= 15; key++) {
            int many = key + 1;
            x.fill(1 + key % 4, key, 2);
            checks.is("restart", many, () -> x.restart());
        }
        x.expire(0, 1);
        x.expire(15, 2);
        x.remove(7);
        checks.is("restart", 15, () -> x.restart());
        x.tick(1);
        checks.is("restart with one due", 14, () -> x.restart());
        x.tick(1);
        checks.is("restart with two due", 13, () -> x.restart());
        checks.is("held", 15, () -> x.held());
    }

    private void rows() {
        checks.says("Promise 21:", "Returns how many rows the log has.");
        Counted x = new Counted();
        checks.is("rows at first", 0, () -> x.rows());
        x.push(0, 1, true);
        checks.is("rows", 1, () -> x.rows());
        x.fillLog(299);
        checks.is("rows", 299, () -> x.rows());
        x.add(1, 1);
        checks.is("rows", 300, () -> x.rows());
        Checks.answerOf(() -> x.add(1, 2));
        checks.is("rows", 300, () -> x.rows());
        x.rewrite();
        checks.is("rows", 300, () -> x.rows());
        x.writeOn(16);
        checks.is("rows of the new log", x.held(), () -> x.rows());
    }

    // ---- questions

    private void typeOf() {
        checks.says("Promise 22:", "Returns the type of a key.");
        checks.says("Promise 22:", "Returns ABSENT, LIST, SET, SORTED or STREAM.");
        Counted x = new Counted();
        for (int type = LIST; type <= STREAM; type++) {
            int t = type;
            checks.is("type ahead", 0, () -> x.typeOf(t));
            x.fill(type, type, 20);
            checks.is("type", t, () -> x.typeOf(t));
            x.expire(type, 1);
        }
        x.tick(1);
        for (int type = LIST; type <= STREAM; type++) {
            int t = type;
            checks.is("type at the end", 0, () -> x.typeOf(t));
            x.fill(5 - type, type, 1);
            checks.is("type of what is made anew", 5 - t, () -> x.typeOf(t));
        }
    }

    private void formOf() {
        checks.says("Promise 23:", "Returns the form of a key.");
        checks.says("Promise 23:", "Returns SMALL or BIG;");
        int[] mostSmall = {0, 8, 8, 6, 16};
        Counted x = new Counted();
        for (int type = LIST; type <= STREAM; type++) {
            int t = type;
            x.fill(type, type, mostSmall[type]);
            checks.is("form", 1, () -> x.formOf(t));
            x.fill(type, 10 + type, mostSmall[type] + 1);
            checks.is("form with one more", 2, () -> x.formOf(10 + t));
        }
        checks.says("Promise 23:", "0 if it is not there.");
        checks.is("form of no key", 0, () -> x.formOf(0));
        x.expire(11, 1);
        x.remove(12);
        x.tick(1);
        checks.is("form of what is due", 0, () -> x.formOf(11));
        checks.is("form of what was removed", 0, () -> x.formOf(12));
    }

    private void size() {
        checks.says("Promise 24:", "Returns how many entries or members a key has.");
        checks.says("Promise 24:", "Returns how many;");
        for (int type = LIST; type <= STREAM; type++) {
            Counted x = new Counted();
            for (int many = 1; many <= 40; many++) {
                int due = many;
                if (type == LIST) {
                    x.push(0, many, false);
                } else if (type == SET) {
                    x.add(0, many);
                } else if (type == SORTED) {
                    x.rate(0, many, Bits.ORDER[many % Bits.ORDER.length]);
                } else {
                    x.append(0, many);
                }
                checks.is("size", due, () -> x.size(0));
            }
            checks.says("Promise 24:", "0 if it is not there.");
            checks.is("size of no key", 0, () -> x.size(15));
            x.expire(0, 1);
            checks.is("size ahead of the end", 40, () -> x.size(0));
            x.tick(1);
            checks.is("size at the end", 0, () -> x.size(0));
        }
    }

    private void at() {
        checks.says("Promise 25:", "Returns an entry of a LIST or STREAM, or a member, of a SET by rising members, "
            + "of a SORTED by its rank.");
        checks.says("Promise 25:", "Returns the value.");
        places("Promise 25:", false);
    }

    private void atByPlain() {
        checks.says("Promise 26:", "Returns the same, from the plain lists and maps beside the forms.");
        checks.says("Promise 26:", "Returns the value.");
        places("Promise 26:", true);
    }

    private static int asked(Counted x, boolean plain, int key, int index) {
        return plain ? x.atByPlain(key, index) : x.at(key, index);
    }

    private void places(String promise, boolean plain) {
        checks.says(promise, "`index`: 0 to the size less 1");
        for (int many : new int[] {1, 6, 7, 8, 9, 16, 17, 33, 40}) {
            Counted x = new Counted();
            for (int i = 0; i < many; i++) {
                x.push(LIST, i, i % 2 == 0);
                x.add(SET, 9999 - 3 * i);
                x.rate(SORTED, 100 + i, i % 2 == 0 ? Bits.ONE : Bits.MINUS_ONE);
                x.append(STREAM, 9999 - i);
            }
            for (int i = 0; i < many; i++) {
                int index = i;
                int behind = many / 2;
                int ofList = i < behind ? 2 * (behind - i) - 1 : 2 * (i - behind);
                int ofSorted = 100 + (i < behind ? 2 * i + 1 : 2 * (i - behind));
                checks.is("of a list " + i, ofList, () -> asked(x, plain, LIST, index));
                checks.is("of a set " + i, 9999 - 3 * (many - 1 - i), () -> asked(x, plain, SET, index));
                checks.is("of a sorted one " + i, ofSorted, () -> asked(x, plain, SORTED, index));
                checks.is("of a stream " + i, 9999 - i, () -> asked(x, plain, STREAM, index));
            }
            for (int type = LIST; type <= STREAM; type++) {
                int t = type;
                for (int index : new int[] {-1, many, 40, Integer.MIN_VALUE, Integer.MAX_VALUE}) {
                    checks.throwsIndex("of type " + type + " at " + index, () -> asked(x, plain, t, index));
                }
            }
            checks.throwsIndex("of no key", () -> asked(x, plain, 0, 0));
        }
    }

    private void indexOf() {
        checks.says("Promise 27:", "Returns the place of a value: the index at which at() tells it first.");
        checks.says("Promise 27:", "Returns the index;");
        Counted x = new Counted();
        for (int i = 0; i < 40; i++) {
            x.push(LIST, 7 + i % 13, true);
            x.append(STREAM, 7 + i % 20);
            x.add(SET, 1000 - i);
            x.rate(SORTED, 1000 - i, i == 39 ? Bits.TWO : Bits.ONE);
        }
        for (int i = 0; i < 20; i++) {
            int value = 7 + i;
            checks.is("in a list", i < 13 ? i : NONE, () -> x.indexOf(LIST, value));
            checks.is("in a stream", i, () -> x.indexOf(STREAM, value));
            int member = 961 + i;
            checks.is("in a set", i, () -> x.indexOf(SET, member));
            checks.is("in a sorted one", i == 0 ? 39 : i - 1, () -> x.indexOf(SORTED, member));
        }
        for (int many : new int[] {2, 8, 9, 17, 40}) {
            Counted y = new Counted();
            for (int i = 0; i < many; i++) {
                y.push(0, 9, true);
                y.append(1, 9);
            }
            checks.is("the first of many that are the same", "0 0", () -> y.indexOf(0, 9) + " " + y.indexOf(1, 9));
            y.pop(0, true);
            y.push(0, 8, false);
            checks.is("the first behind another", 1, () -> y.indexOf(0, 9));
        }
        checks.says("Promise 27:", "NONE if there is none.");
        for (int type = LIST; type <= STREAM; type++) {
            int t = type;
            for (int value : new int[] {0, 6, 27, 960, 1001, 9999}) {
                checks.is("of " + value + " in type " + type, NONE, () -> x.indexOf(t, value));
            }
        }
        checks.is("of no key", NONE, () -> x.indexOf(0, 0));
        x.pop(LIST, false);
        checks.is("of what comes again later", 12, () -> x.indexOf(LIST, 7));
    }

    private void points() {
        checks.says("Promise 28:", "Returns the points of a member of a SORTED.");
        checks.says("Promise 28:", "Returns the points.");
        for (int bits : Bits.ORDER) {
            Counted x = new Counted();
            x.rate(0, 9999, bits);
            checks.is("points of bits " + bits, Float.intBitsToFloat(bits), () -> x.points(0, 9999));
            x.fill(SORTED, 0, 9);
            checks.is("points of bits " + bits + " of a big one", Float.intBitsToFloat(bits), () -> x.points(0, 9999));
            checks.is("points of another", 1f, () -> x.points(0, 8));
            x.take(0, 9999);
            checks.throwsState("points of what was taken", () -> x.points(0, 9999));
        }
        Counted low = new Counted();
        Counted high = new Counted();
        for (int exponent = 0; exponent < 255; exponent++) {
            Counted x = exponent < 128 ? low : high;
            int bits = exponent << 23 | 0x2aaaab;
            x.rate(0, 0, bits);
            checks.is("points of bits " + bits, Float.intBitsToFloat(bits), () -> x.points(0, 0));
        }
    }

    private void next() {
        checks.says("Promise 29:", "Returns the next cursor of a scan of a SET.");
        checks.says("Promise 29:", "Returns the next cursor.");
        Counted x = new Counted();
        x.fill(SET, 0, 8);
        checks.is("next of a small one", "0 0", () -> x.next(0, 0) + " " + x.next(0, 1023));
        x.add(0, 8);
        checks.is("next in 16", "8 0 8 0", () -> x.next(0, 0) + " " + x.next(0, 15) + " " + x.next(0, 1008) + " "
            + x.next(0, 1023));
        x.fill(SET, 0, 17);
        checks.is("next in 32", "16 0 16 0", () -> x.next(0, 0) + " " + x.next(0, 31) + " " + x.next(0, 992) + " "
            + x.next(0, 1023));
        x.fill(SET, 0, 33);
        checks.is("next in 64", "32 0 32 0", () -> x.next(0, 0) + " " + x.next(0, 63) + " " + x.next(0, 960) + " "
            + x.next(0, 1023));
    }

    private void scanned() {
        checks.says("Promise 30:", "Returns a member that a scan of a SET gives.");
        checks.says("Promise 30:", "`index`: 0 for the first one");
        checks.says("Promise 30:", "Returns the member;");
        checks.says("Promise 30:", "NONE if it does not give so many, or index is below 0.");
        Counted small = new Counted();
        small.fill(SET, 0, 8);
        Counted big = new Counted();
        for (int member : new int[] {9998, 255, 9983, 31, 0, 63, 32, 33, 9999}) {
            big.add(0, member);
        }
        checks.is("the first of all", 0, () -> small.scanned(0, 6, 0));
        checks.is("the last of all", 7, () -> small.scanned(0, 6, 7));
        checks.is("the first of a bucket", 255, () -> big.scanned(0, 6, 0));
        checks.is("the second of a bucket", 9983, () -> big.scanned(0, 6, 1));
        checks.is("the last of a bucket", 9998, () -> big.scanned(0, 6, 2));
        checks.is("the first of the last bucket", 31, () -> big.scanned(0, 1023, 0));
        checks.is("the first of an empty bucket", NONE, () -> big.scanned(0, 5, 0));
        for (int index : new int[] {Integer.MIN_VALUE, -1, 8, 9, 16, 40, 41, 64, Integer.MAX_VALUE}) {
            checks.is("at " + index + " of all", NONE, () -> small.scanned(0, 6, index));
            checks.is("at " + index + " of a bucket", NONE, () -> big.scanned(0, 6, index));
        }
        checks.is("behind the last of a bucket", NONE, () -> big.scanned(0, 6, 3));
        scannedAllInOneBucket();
    }

    /** The first ones whose bucket of 64 is the last. */
    private static int[] ofTheLastBucket(int many) {
        int[] values = new int[many];
        int found = 0;
        for (int v = 0; found < many; v++) {
            if ((193 * v + v / 32) % 64 == 63) {
                values[found] = v;
                found++;
            }
        }
        return values;
    }

    private void noMember(Counted x, int value) {
        checks.is("the place of " + value, NONE, () -> x.indexOf(0, value));
        checks.throwsState("add of " + value, () -> x.add(0, value));
        checks.is("take of " + value, false, () -> x.take(0, value));
        checks.is("size", 40, () -> x.size(0));
    }

    private void scannedAllInOneBucket() {
        Counted x = new Counted();
        int[] values = ofTheLastBucket(42);
        int[] members = new int[40];
        for (int i = 0; i < 40; i++) {
            members[i] = values[i < 20 ? i : i + 1];
        }
        for (int i = 0; i < 40; i++) {
            x.add(0, members[i * 17 % 40]);
        }
        for (int i = 0; i < 40; i++) {
            int index = i;
            checks.is("at " + i + " of a bucket of 40", members[i], () -> x.scanned(0, 63, index));
        }
        checks.is("behind the last of 40", NONE, () -> x.scanned(0, 63, 40));
        // Others of this bucket: one between two members, and one behind the last.
        noMember(x, values[20]);
        noMember(x, values[41]);
        for (int bucket = 0; bucket < 63; bucket++) {
            int b = bucket;
            checks.is("of the empty bucket " + bucket, NONE, () -> x.scanned(0, b, 0));
        }
        for (int i = 39; i >= 0; i--) {
            int member = members[i];
            int left = i;
            checks.is("take of the last one", true, () -> x.take(0, member));
            if (left > 0) {
                checks.is("behind the last one that is left", NONE, () -> x.scanned(0, 63, left));
                checks.is("the last one that is left", members[left - 1], () -> x.scanned(0, 63, left - 1));
            }
        }
    }
}
