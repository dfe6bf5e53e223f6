/** The bits of some floats; the ORDER of all numbers among them, and those of no numbers. */
final class Bits {
    static final int ZERO = 0, ONE = 0x3f800000, TWO = 0x40000000;
    static final int MINUS_ZERO = 0x80000000, MINUS_ONE = 0xbf800000;
    static final int LEAST = 1, MINUS_LEAST = 0x80000001;
    static final int MOST = 0x7f7fffff, MINUS_MOST = 0xff7fffff;
    static final int INFINITE = 0x7f800000, MINUS_INFINITE = 0xff800000;

    /** Rising, with the neighbours at each edge of how floats are told. */
    static final int[] ORDER = {
        MINUS_INFINITE, MINUS_MOST, 0xff7ffffe, 0xc0000000, 0xbf800001, MINUS_ONE, 0xbf7fffff, 0x80800001,
        0x80800000, 0x807fffff, 0x80000002, MINUS_LEAST, MINUS_ZERO, ZERO, LEAST, 2, 0x007fffff, 0x00800000,
        0x00800001, 0x3f7fffff, ONE, 0x3f800001, 0x3fffffff, TWO, 0x4b7fffff, 0x4b800000, 0x7f7ffffe, MOST, INFINITE,
    };

    /** The first and the last ones that are no numbers, on both sides of 0, and some between. */
    static final int[] NO_NUMBERS = {
        0x7f800001, 0x7fbfffff, 0x7fc00000, 0x7fffffff, 0xff800001, 0xffbfffff, 0xffc00000, 0xffffffff,
    };

    private Bits() {
    }
}
