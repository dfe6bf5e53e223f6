/** "Forms" and "Scans": each clause of the document at its boundaries. */
public final class FormsTest {
    private static final int NONE = Compactforms.NONE, LIST = Compactforms.LIST, SET = Compactforms.SET;
    private static final int SORTED = Compactforms.SORTED, STREAM = Compactforms.STREAM;
    private static final int SMALL = Compactforms.SMALL, BIG = Compactforms.BIG;
    private static final String SECTION = "Forms";

    // Members whose buckets are reckoned by hand: the member, then its bucket of 16, 32 and 64.
    private static final int[][] BUCKETS = {
        {0, 0, 0, 0}, {31, 15, 31, 31}, {32, 1, 1, 33}, {33, 2, 2, 34}, {63, 0, 0, 0}, {64, 2, 2, 2},
        {95, 1, 1, 33}, {96, 3, 3, 35}, {255, 6, 6, 6}, {256, 8, 8, 8}, {4999, 3, 3, 35}, {5000, 4, 4, 36},
        {9983, 6, 22, 54}, {9984, 8, 24, 56}, {9998, 6, 6, 6}, {9999, 7, 7, 7},
    };

    private static final Checks checks = new Checks("FormsTest");

    public static void main(String[] args) {
        smallAtFirst();
        bigLists();
        bigByAnEntry();
        bigSets();
        bigSorted();
        bigStreams();
        bigForGood();
        smallOnesStay();
        sameAnswersOfLists();
        sameAnswersOfSets();
        sameAnswersOfSorted();
        buckets();
        bucketsNeverFewer();
        bucketsNotByAdding();
        hashes();
        order();
        orderOfZeros();
        orderOfSamePoints();
        checks.allSaid(SECTION, SECTION);
        cursors();
        scansRise();
        scansOfSmallOnes();
        scansOfBuckets();
        nextOfBuckets();
        wholeScans();
        scansWhileGrowing();
        checks.allSaid("Scans", "Scans");
        checks.finish();
    }

    private static void form(String what, int due, Counted x) {
        checks.is("form of " + what, due, () -> x.formOf(0));
    }

    private static void smallAtFirst() {
        checks.says(SECTION, "A value is SMALL when it is made");
        for (int type = LIST; type <= STREAM; type++) {
            Counted x = new Counted();
            x.fill(type, 0, 1);
            form("type " + type, SMALL, x);
        }
    }

    private static void bigLists() {
        checks.says(SECTION, "as a LIST, a 9th entry");
        for (boolean atEnd : new boolean[] {false, true}) {
            Counted x = new Counted();
            x.fill(LIST, 0, 8);
            form("8 entries", SMALL, x);
            checks.is("a 9th", 9, () -> x.push(0, 255, atEnd));
            form("9 entries", BIG, x);
            checks.is("entries", atEnd ? "0 1 2 3 4 5 6 7 255" : "255 0 1 2 3 4 5 6 7", () -> x.entries(0));
        }
    }

    private static void bigByAnEntry() {
        checks.says(SECTION, "or one above 255;");
        for (int already : new int[] {0, 1, 7}) {
            for (boolean atEnd : new boolean[] {false, true}) {
                Counted x = new Counted();
                x.fill(LIST, 0, already);
                x.push(0, 255, atEnd);
                form("one of 255", SMALL, x);
                x.pop(0, atEnd);
                x.push(0, 256, atEnd);
                form("one of 256", BIG, x);
                Counted y = new Counted();
                y.push(0, 9999, atEnd);
                form("one of 9999", BIG, y);
            }
        }
    }

    private static void bigSets() {
        checks.says(SECTION, "as a SET a 9th member;");
        Counted x = new Counted();
        for (int i = 0; i < 8; i++) {
            x.add(0, 9999 - i);
        }
        x.add(0, 9999);
        form("8 members", SMALL, x);
        x.add(0, 300);
        form("9 members", BIG, x);
        checks.is("members", "300 9992 9993 9994 9995 9996 9997 9998 9999", () -> x.entries(0));
    }

    private static void bigSorted() {
        checks.says(SECTION, "as a SORTED a 7th member;");
        Counted x = new Counted();
        for (int i = 0; i < 6; i++) {
            x.rate(0, 9999 - i, Bits.ONE);
        }
        x.rate(0, 9999, Bits.ONE);
        x.rate(0, 9994, Bits.TWO);
        form("6 members", SMALL, x);
        x.rate(0, 300, Bits.ONE);
        form("7 members", BIG, x);
        checks.is("members", "300 9995 9996 9997 9998 9999 9994", () -> x.entries(0));
    }

    private static void bigStreams() {
        checks.says(SECTION, "as a STREAM a 17th entry.");
        Counted x = new Counted();
        for (int i = 0; i < 16; i++) {
            x.append(0, 9999);
        }
        form("16 entries", SMALL, x);
        checks.is("a 17th", 17, () -> x.append(0, 5));
        form("17 entries", BIG, x);
        checks.is("the 16th", 9999, () -> x.at(0, 15));
        checks.is("the 17th", 5, () -> x.at(0, 16));
    }

    private static void bigForGood() {
        checks.says(SECTION, "and becomes BIG for good");
        Counted list = new Counted();
        list.fill(LIST, 0, 9);
        for (int left = 8; left >= 1; left--) {
            list.pop(0, true);
            form("a list of " + left, BIG, list);
        }
        Counted above = new Counted();
        above.push(0, 1, true);
        above.push(0, 256, true);
        above.pop(0, true);
        form("a list without the one above 255", BIG, above);
        for (int type = SET; type <= SORTED; type++) {
            Counted x = new Counted();
            x.fill(type, 0, 9);
            for (int left = 8; left >= 1; left--) {
                x.take(0, left);
                form("type " + type + " with " + left, BIG, x);
            }
        }
    }

    private static void smallOnesStay() {
        checks.says(SECTION, "when it gets, as a LIST, a 9th entry");
        Counted x = new Counted();
        x.fill(LIST, 0, 8);
        for (int i = 0; i < 20; i++) {
            x.pop(0, i % 2 == 0);
            x.push(0, i, i % 3 == 0);
        }
        form("a list of 8 at once", SMALL, x);
        Counted y = new Counted();
        y.fill(SET, 0, 8);
        for (int i = 0; i < 20; i++) {
            y.take(0, i);
            y.add(0, i + 8);
        }
        form("a set of 8 at once", SMALL, y);
        Counted z = new Counted();
        z.fill(SORTED, 0, 6);
        for (int i = 0; i < 20; i++) {
            z.take(0, i);
            z.rate(0, i + 6, i);
            z.rate(0, i + 6, Bits.TWO);
        }
        form("a sorted one of 6 at once", SMALL, z);
    }

    private static void sameAnswersOfLists() {
        checks.says(SECTION, "Forms change no answer but formOf() and scans.");
        Counted small = new Counted();
        Counted big = new Counted();
        small.push(0, 7, true);
        big.push(0, 7, true);
        big.push(0, 256, true);
        big.pop(0, true);
        checks.is("forms", "1 2", () -> small.formOf(0) + " " + big.formOf(0));
        for (int i = 0; i < 20; i++) {
            int value = i * 37 % 256;
            boolean atEnd = i % 3 != 0;
            boolean pops = small.size(0) == 8 || i % 4 == 3;
            checks.same("a change", pops ? small.pop(0, atEnd) : small.push(0, value, atEnd),
                pops ? big.pop(0, atEnd) : big.push(0, value, atEnd));
            checks.same("entries", small.entries(0), big.entries(0));
            checks.same("a place", small.indexOf(0, value), big.indexOf(0, value));
        }
        checks.is("forms still", "1 2", () -> small.formOf(0) + " " + big.formOf(0));
    }

    private static void sameAnswersOfSets() {
        Counted small = new Counted();
        Counted big = new Counted();
        small.add(0, 5000);
        big.add(0, 5000);
        big.fill(SET, 0, 9);
        for (int i = 0; i < 9; i++) {
            big.take(0, i);
        }
        checks.is("forms", "1 2", () -> small.formOf(0) + " " + big.formOf(0));
        for (int i = 0; i < 20; i++) {
            int value = i * 3333 % 9;
            boolean takes = small.size(0) == 8 || i % 4 == 3;
            checks.same("a change", takes ? small.take(0, value) : small.add(0, value),
                takes ? big.take(0, value) : big.add(0, value));
            checks.same("members", small.entries(0), big.entries(0));
            checks.same("a place", small.indexOf(0, value), big.indexOf(0, value));
        }
        checks.is("forms still", "1 2", () -> small.formOf(0) + " " + big.formOf(0));
    }

    private static void sameAnswersOfSorted() {
        Counted small = new Counted();
        Counted big = new Counted();
        small.rate(0, 5000, Bits.ONE);
        big.rate(0, 5000, Bits.ONE);
        big.fill(SORTED, 0, 6);
        for (int i = 0; i < 6; i++) {
            big.take(0, i);
        }
        checks.is("forms", "1 2", () -> small.formOf(0) + " " + big.formOf(0));
        for (int i = 0; i < 20; i++) {
            int member = i * 5 % 7;
            int bits = Bits.ORDER[i * 11 % Bits.ORDER.length];
            boolean takes = small.size(0) == 6 || i % 4 == 3;
            checks.same("a change", takes ? small.take(0, member) : (Object) small.rate(0, member, bits),
                takes ? big.take(0, member) : (Object) big.rate(0, member, bits));
            checks.same("members", small.entries(0), big.entries(0));
            checks.same("points", Checks.answerOf(() -> small.points(0, member)), Checks.answerOf(() -> big.points(0, member)));
        }
        checks.is("forms still", "1 2", () -> small.formOf(0) + " " + big.formOf(0));
    }

    // ---- tables

    /** How many buckets a BIG SET has, told by the cursor behind 0, which is half of them. */
    private static void hasBuckets(int due, Counted x) {
        checks.is("buckets of a set of " + x.size(0), due, () -> 2 * x.next(0, 0));
    }

    private static void buckets() {
        checks.says(SECTION, "A SET that is BIG is a table of 16 buckets at first;");
        Counted x = new Counted();
        x.fill(SET, 0, 9);
        hasBuckets(16, x);
        checks.says(SECTION, "whenever it gets more members than there are buckets, these become twice as many");
        for (int many = 10; many <= 40; many++) {
            x.add(0, many - 1);
            hasBuckets(many <= 16 ? 16 : many <= 32 ? 32 : 64, x);
        }
        checks.is("all its members", 40, () -> x.size(0));
        checks.is("the last one", 39, () -> x.at(0, 39));
    }

    private static void bucketsNeverFewer() {
        checks.says(SECTION, "and they never become fewer.");
        for (int most : new int[] {17, 33, 40}) {
            Counted x = new Counted();
            x.fill(SET, 0, most);
            for (int i = 0; i < most - 1; i++) {
                x.take(0, i);
                hasBuckets(most == 17 ? 32 : 64, x);
            }
            checks.is("the last member", "" + (most - 1), () -> x.entries(0));
            x.add(0, 9999);
            hasBuckets(most == 17 ? 32 : 64, x);
        }
    }

    private static void bucketsNotByAdding() {
        checks.says(SECTION, "whenever it gets more members than there are buckets");
        Counted x = new Counted();
        x.fill(SET, 0, 16);
        for (int i = 0; i < 20; i++) {
            x.take(0, i);
            x.add(0, i + 16);
            x.add(0, i + 16);
            hasBuckets(16, x);
        }
        x.add(0, 9999);
        hasBuckets(32, x);
    }

    private static void hashes() {
        checks.says(SECTION, "The hash of a member v is 193 v, and v / 32, rounded down, together;");
        for (int bits = 4; bits <= 6; bits++) {
            Counted x = new Counted();
            for (int[] one : BUCKETS) {
                x.add(0, one[0]);
            }
            for (int i = 0; x.size(0) < (bits == 4 ? 16 : bits == 5 ? 17 : 33); i++) {
                x.add(0, 1000 + i);
            }
            hasBuckets(1 << bits, x);
            for (int[] one : BUCKETS) {
                int bucket = one[bits - 3];
                checks.is("member " + one[0] + " in bucket " + bucket, true,
                    () -> (" " + x.scan(0, bucket) + " ").contains(" " + one[0] + " "));
            }
        }
        checks.says(SECTION, "its bucket is the rest of that by the number of buckets.");
        Counted x = new Counted();
        for (int[] one : BUCKETS) {
            x.add(0, one[0]);
        }
        String[] due = {
            "0 63", "32 95", "33 64", "96 4999", "5000", "", "255 9983 9998", "9999", "256 9984",
            "", "", "", "", "", "", "31",
        };
        for (int bucket = 0; bucket < 16; bucket++) {
            int b = bucket;
            checks.is("bucket " + bucket, due[bucket], () -> x.scan(0, b));
        }
    }

    // ---- sorted ones

    private static void order() {
        checks.says(SECTION, "A SORTED has points for each member, floats told by their bits;");
        int many = Bits.ORDER.length;
        Counted x = new Counted();
        for (int i = 0; i < many; i++) {
            int place = i * 10 % many;
            x.rate(0, 100 + place, Bits.ORDER[place]);
        }
        for (int i = 0; i < many; i++) {
            int place = i;
            Float due = Float.intBitsToFloat(Bits.ORDER[place]);
            checks.is("points of bits " + Bits.ORDER[place], due, () -> x.points(0, 100 + place));
        }
        checks.says(SECTION, "its order is by rising points, as floats are compared");
        for (int i = 0; i < many; i++) {
            int place = i;
            checks.is("rank " + place, 100 + place, () -> x.at(0, place));
            checks.is("rank of the same", place, () -> x.rate(0, 100 + place, Bits.ORDER[place]));
        }
        for (int i = 1; i < many; i++) {
            Counted two = new Counted();
            two.rate(0, 1, Bits.ORDER[i]);
            int lower = Bits.ORDER[i - 1];
            int higher = Bits.ORDER[i];
            checks.is("rank of " + lower + " ahead of " + higher, 0, () -> two.rate(0, 2, lower));
            checks.is("rank of " + higher + " behind it", 1, () -> two.rate(0, 0, higher));
        }
    }

    private static void orderOfZeros() {
        checks.says(SECTION, "-0 ahead of 0");
        Counted x = new Counted();
        x.rate(0, 1, Bits.ZERO);
        checks.is("rank of -0", 0, () -> x.rate(0, 9, Bits.MINUS_ZERO));
        checks.is("rank of 0", 1, () -> x.rate(0, 0, Bits.ZERO));
        checks.is("rank of another -0", 1, () -> x.rate(0, 10, Bits.MINUS_ZERO));
        checks.is("members", "9 10 0 1", () -> x.entries(0));
        checks.is("its points", -0f, () -> x.points(0, 9));
        checks.is("its points", 0f, () -> x.points(0, 1));
        checks.is("from 0 to -0", 0, () -> x.rate(0, 1, Bits.MINUS_ZERO));
        checks.is("from -0 to 0", 3, () -> x.rate(0, 9, Bits.ZERO));
    }

    private static void orderOfSamePoints() {
        checks.says(SECTION, "of the same points by rising members.");
        for (int bits : new int[] {Bits.INFINITE, Bits.MINUS_INFINITE, Bits.MINUS_ONE, Bits.ZERO, Bits.LEAST}) {
            Counted x = new Counted();
            checks.is("rank of 5000", 0, () -> x.rate(0, 5000, bits));
            checks.is("rank of 9999", 1, () -> x.rate(0, 9999, bits));
            checks.is("rank of 0", 0, () -> x.rate(0, 0, bits));
            checks.is("rank of 4999", 1, () -> x.rate(0, 4999, bits));
            checks.is("rank of 5001", 3, () -> x.rate(0, 5001, bits));
            checks.is("members", "0 4999 5000 5001 9999", () -> x.entries(0));
        }
    }

    // ---- scans

    private static void cursors() {
        checks.says("Scans", "A scan of a SET with a cursor, 0 to 1023");
        for (int many : new int[] {8, 16, 17, 40}) {
            Counted x = new Counted();
            x.fill(SET, 0, many);
            for (int cursor : new int[] {0, 1023}) {
                checks.answers("next of " + cursor, () -> x.next(0, cursor));
                checks.answers("scanned of " + cursor, () -> x.scanned(0, cursor, 0));
            }
            for (int cursor : new int[] {-1, 1024, Integer.MIN_VALUE, Integer.MAX_VALUE}) {
                checks.throwsArgument("next of " + cursor, () -> x.next(0, cursor));
                checks.throwsArgument("scanned of " + cursor, () -> x.scanned(0, cursor, 0));
            }
        }
    }

    private static void scansRise() {
        checks.says("Scans", "gives members, by rising numbers, and a next cursor.");
        // All of these are in bucket 1 of 16.
        int[] members = {544, 32, 1056, 48, 95, 1119, 110};
        Counted small = new Counted();
        Counted big = new Counted();
        big.fillSet(0, 9);
        for (int member : members) {
            small.add(0, member);
            big.add(0, member);
        }
        checks.is("all of a small one", "32 48 95 110 544 1056 1119", () -> small.scan(0, 0));
        for (int bucket = 0; bucket < 16; bucket++) {
            String[] given = big.scan(0, bucket).split(" ");
            for (int i = 1; i < given.length; i++) {
                checks.same("rising", true, Integer.parseInt(given[i - 1]) < Integer.parseInt(given[i]));
            }
        }
        checks.is("bucket 1", "1 32 48 95 110 544 1056 1119", () -> big.scan(0, 1));
        big.take(0, 95);
        checks.is("bucket 1 without one between", "1 32 48 110 544 1056 1119", () -> big.scan(0, 1));
        big.take(0, 1);
        big.take(0, 1119);
        checks.is("bucket 1 without the first and the last", "32 48 110 544 1056", () -> big.scan(0, 1));
        big.add(0, 95);
        checks.is("bucket 1 with one between again", "32 48 95 110 544 1056", () -> big.scan(0, 1));
    }

    private static void scansOfSmallOnes() {
        checks.says("Scans", "For a SMALL one these are all members, and the next cursor is 0.");
        for (int many : new int[] {1, 8}) {
            Counted x = new Counted();
            x.fill(SET, 0, many);
            for (int cursor : new int[] {0, 1, 15, 16, 1023}) {
                checks.is("members for " + cursor, x.entries(0), () -> x.scan(0, cursor));
                checks.is("next of " + cursor, 0, () -> x.next(0, cursor));
                checks.is("first of " + cursor, 0, () -> x.scanned(0, cursor, 0));
                checks.is("last of " + cursor, many - 1, () -> x.scanned(0, cursor, many - 1));
                checks.is("behind the last of " + cursor, NONE, () -> x.scanned(0, cursor, many));
                checks.is("ahead of the first of " + cursor, NONE, () -> x.scanned(0, cursor, -1));
            }
        }
    }

    private static void scansOfBuckets() {
        checks.says("Scans", "these are those of the bucket that the lowest b bits of the cursor tell;");
        for (int many : new int[] {9, 16, 17, 32, 33, 40}) {
            int buckets = many <= 16 ? 16 : many <= 32 ? 32 : 64;
            Counted x = new Counted();
            x.fill(SET, 0, many);
            // 193 v is v modulo the buckets, and v / 32 adds 1 from 32 on: so a bucket has few of these.
            for (int cursor : new int[] {0, 5, 8, buckets - 1, buckets, buckets + 5, 512 + 5, 1024 - buckets, 1023}) {
                StringBuilder due = new StringBuilder();
                for (int v = 0; v < many; v++) {
                    if ((193 * v + v / 32) % buckets == cursor % buckets) {
                        due.append(v).append(' ');
                    }
                }
                checks.is("of " + buckets + " for " + cursor, due.toString().trim(), () -> x.scan(0, cursor));
            }
        }
    }

    private static void nextOfBuckets() {
        checks.says("Scans", "the next cursor is these bits, read backwards as a number, which becomes 1 more modulo "
            + "the number of buckets, and is read backwards again in b bits.");
        int[] of16 = {0, 8, 4, 12, 2, 10, 6, 14, 1, 9, 5, 13, 3, 11, 7, 15, 0};
        Counted x = new Counted();
        x.fill(SET, 0, 16);
        nextsAre(x, of16, 16);
        int[] of32 = {
            0, 16, 8, 24, 4, 20, 12, 28, 2, 18, 10, 26, 6, 22, 14, 30,
            1, 17, 9, 25, 5, 21, 13, 29, 3, 19, 11, 27, 7, 23, 15, 31, 0,
        };
        Counted y = new Counted();
        y.fill(SET, 0, 32);
        nextsAre(y, of32, 32);
        int[] of64 = {
            0, 32, 16, 48, 8, 40, 24, 56, 4, 36, 20, 52, 12, 44, 28, 60, 2, 34, 18, 50, 10, 42, 26, 58, 6, 38, 22,
            54, 14, 46, 30, 62, 1, 33, 17, 49, 9, 41, 25, 57, 5, 37, 21, 53, 13, 45, 29, 61, 3, 35, 19, 51, 11, 43,
            27, 59, 7, 39, 23, 55, 15, 47, 31, 63, 0,
        };
        Counted z = new Counted();
        z.fill(SET, 0, 40);
        nextsAre(z, of64, 64);
    }

    private static void nextsAre(Counted x, int[] cursors, int buckets) {
        for (int i = 0; i + 1 < cursors.length; i++) {
            int cursor = cursors[i];
            int due = cursors[i + 1];
            checks.is("next of " + cursor + " in " + buckets, due, () -> x.next(0, cursor));
            checks.is("next of the same above", due, () -> x.next(0, cursor + buckets));
            checks.is("next of the same at the top", due, () -> x.next(0, 1024 - buckets + cursor));
        }
    }

    private static void wholeScans() {
        checks.says("Scans", "modulo the number of buckets");
        for (int many : new int[] {9, 16, 17, 32, 33, 40}) {
            int buckets = many <= 16 ? 16 : many <= 32 ? 32 : 64;
            Counted x = new Counted();
            for (int i = 0; i < many; i++) {
                x.add(0, i * 249);
            }
            int cursor = 0;
            int steps = 0;
            java.util.TreeSet<Integer> seen = new java.util.TreeSet<>();
            do {
                for (String member : x.scan(0, cursor).split(" ")) {
                    checks.same("a member told twice", true, member.isEmpty() || seen.add(Integer.valueOf(member)));
                }
                cursor = x.next(0, cursor);
                steps++;
            } while (cursor != 0);
            checks.same("steps", buckets, steps);
            checks.same("members", many, seen.size());
            checks.is("next of the last bucket", 0, () -> x.next(0, buckets - 1));
            checks.is("next of 1023", 0, () -> x.next(0, 1023));
        }
    }

    /** What backwards cursors are for: a scan that goes on while the table grows leaves none out. */
    private static void scansWhileGrowing() {
        checks.says("Scans", "read backwards");
        Counted x = new Counted();
        for (int i = 0; i < 16; i++) {
            x.add(0, i * 601);
        }
        java.util.TreeSet<String> seen = new java.util.TreeSet<>();
        int cursor = 0;
        int steps = 0;
        do {
            for (String member : x.scan(0, cursor).split(" ")) {
                seen.add(member);
            }
            cursor = x.next(0, cursor);
            steps++;
            if (steps == 5 || steps == 9) {
                for (int i = 0; i < (steps == 5 ? 16 : 8); i++) {
                    x.add(0, 9999 - i - steps * 100);
                }
            }
        } while (cursor != 0);
        // 5 of 16 buckets, then 4 of 32 (that is 2 of 16), then 4 for each of the 9 that are left.
        checks.same("steps", 5 + 4 + 36, steps);
        for (int i = 0; i < 16; i++) {
            checks.same("member " + i * 601, true, seen.contains("" + i * 601));
        }
    }
}
