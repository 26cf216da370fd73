/**
 * Calculates with small rounded binary numbers, correctly.
 *
 * Every number is a whole multiple of 2^-12, the UNIT, and below 2^33 units, so a register holds
 * a number as a count of units.
 *
 * An exact value on its way to being rounded is counted in QUARTERS of a unit. Where it isn't a
 * whole count of quarters it is replaced by the odd count nearest to it. That loses nothing that
 * rounding looks at: all numbers, and all points midway between two of them, are even counts of
 * quarters, so the odd count lies on the same side of each of them as the exact value does.
 */
public final class RoundedFloats {
    public static final int INEXACT = 1;
    public static final int LIMIT = 2;
    public static final int INVALID = 4;
    public static final int BAD = -1;

    private static final int NEAREST = 0;
    private static final int DOWN = 1;
    private static final int UP = 2;
    private static final int TO_ZERO = 3;

    private static final int LEAST_PRECISION = 2;
    private static final int GREATEST_PRECISION = 10;
    private static final int REGISTERS = 4;
    private static final int GREATEST_CODE = 63;
    private static final int LOAD_MANTISSA = 1000000;
    private static final int LOAD_EXPONENT = 20;

    private static final int UNIT_PLACES = 12;
    private static final int GREATEST_SHIFT = 23;
    private static final int QUARTER_BITS = 2;
    private static final int QUARTER_PLACES = UNIT_PLACES + QUARTER_BITS;
    private static final int PRODUCT_PLACES = UNIT_PLACES + UNIT_PLACES;
    private static final int NUMBER_BITS = GREATEST_PRECISION + GREATEST_SHIFT;
    private static final int ROOT_BITS = 25;

    /**
     * Stands for every product whose size is greater, in units of 2^-24. It is 2^26, and a number
     * is below 2^21: whatever number is added to it, the sum stays beyond the greatest number.
     */
    private static final long FAR = 1L << 50;

    private final long[] registers = new long[REGISTERS];
    private final int digits;
    private final long greatest;
    private int mode;
    private int untaken;

    public RoundedFloats(int precision) {
        int clamped = precision;
        if (clamped < LEAST_PRECISION) {
            clamped = LEAST_PRECISION;
        }
        if (clamped > GREATEST_PRECISION) {
            clamped = GREATEST_PRECISION;
        }
        digits = clamped;
        greatest = ((1L << clamped) - 1) << GREATEST_SHIFT;
        mode = NEAREST;
        untaken = 0;
    }

    public int precision() {
        return digits;
    }

    public boolean setMode(int mode) {
        if (mode < NEAREST || mode > TO_ZERO) {
            return false;
        }
        this.mode = mode;
        return true;
    }

    public int load(int r, int m, int e) {
        if (!isRegister(r) || !isLoadable(m, e)) {
            return BAD;
        }
        long exact = (long) m << (e + LOAD_EXPONENT);
        long quarters = withoutBits(exact, LOAD_EXPONENT - QUARTER_PLACES);
        return putRounded(r, quarters);
    }

    public int add(int r, int a, int b) {
        if (!areRegisters(r, a, b)) {
            return BAD;
        }
        long sum = registers[a] + registers[b];
        return putRounded(r, sum << QUARTER_BITS);
    }

    public int sub(int r, int a, int b) {
        if (!areRegisters(r, a, b)) {
            return BAD;
        }
        long difference = registers[a] - registers[b];
        return putRounded(r, difference << QUARTER_BITS);
    }

    public int mul(int r, int a, int b) {
        if (!areRegisters(r, a, b)) {
            return BAD;
        }
        long product = productOf(registers[a], registers[b]);
        long quarters = withoutBits(product, PRODUCT_PLACES - QUARTER_PLACES);
        return putRounded(r, quarters);
    }

    public int div(int r, int a, int b) {
        if (!areRegisters(r, a, b)) {
            return BAD;
        }
        if (registers[b] == 0) {
            return putInvalid(r);
        }
        long quarters = quotientOf(registers[a], registers[b]);
        return putRounded(r, quarters);
    }

    public int root(int r, int a) {
        if (!isRegister(r) || !isRegister(a)) {
            return BAD;
        }
        if (registers[a] < 0) {
            return putInvalid(r);
        }
        long quarters = rootOf(registers[a]);
        return putRounded(r, quarters);
    }

    public int fuse(int r, int abc) {
        if (!isRegister(r) || abc < 0 || abc > GREATEST_CODE) {
            return BAD;
        }
        int a = abc & 3;
        int b = (abc >> 2) & 3;
        int c = (abc >> 4) & 3;
        long product = productOf(registers[a], registers[b]);
        long exact = product + (registers[c] << (PRODUCT_PLACES - UNIT_PLACES));
        long quarters = withoutBits(exact, PRODUCT_PLACES - QUARTER_PLACES);
        return putRounded(r, quarters);
    }

    public int mantissa(int r) {
        if (!isRegister(r)) {
            return 0;
        }
        long number = registers[r];
        int twos = twosIn(number);
        return (int) (number >> twos);
    }

    public int exponent(int r) {
        if (!isRegister(r) || registers[r] == 0) {
            return 0;
        }
        int twos = twosIn(registers[r]);
        return twos - UNIT_PLACES;
    }

    public int compare(int a, int b) {
        if (!isRegister(a) || !isRegister(b) || registers[a] == registers[b]) {
            return 0;
        }
        return registers[a] < registers[b] ? -1 : 1;
    }

    public boolean next(int r, boolean up) {
        if (!isRegister(r)) {
            return false;
        }
        long number = registers[r];
        if (number == (up ? greatest : -greatest)) {
            return false;
        }
        // One quarter away lies short of every other number, so rounding onward finds the first.
        long quarters = (number << QUARTER_BITS) + (up ? 1 : -1);
        registers[r] = rounded(quarters, up ? UP : DOWN);
        return true;
    }

    public int takeFlags() {
        int flags = untaken;
        untaken = 0;
        return flags;
    }

    private static boolean isRegister(int r) {
        return r >= 0 && r < REGISTERS;
    }

    private static boolean areRegisters(int r, int a, int b) {
        return isRegister(r) && isRegister(a) && isRegister(b);
    }

    private static boolean isLoadable(int m, int e) {
        return m >= -LOAD_MANTISSA && m <= LOAD_MANTISSA && e >= -LOAD_EXPONENT && e <= LOAD_EXPONENT;
    }

    private static long sizeOf(long value) {
        return value < 0 ? -value : value;
    }

    /** The value in units 2^bits times as great; the odd neighbour where it isn't whole there. */
    private static long withoutBits(long value, int bits) {
        long kept = value >> bits;
        return (kept << bits) == value ? kept : kept | 1;
    }

    /** The product in units of 2^-24; FAR or -FAR in place of one that is farther from 0. */
    private static long productOf(long a, long b) {
        long sizeA = sizeOf(a);
        long sizeB = sizeOf(b);
        if (sizeB != 0 && sizeA > FAR / sizeB) {
            return (a < 0) == (b < 0) ? FAR : -FAR;
        }
        return a * b;
    }

    /** The quotient in quarters; 0 for a divisor 0, which no caller hands over. */
    private static long quotientOf(long a, long b) {
        if (b == 0) {
            return 0;
        }
        long dividend = sizeOf(a) << QUARTER_PLACES;
        long divisor = sizeOf(b);
        long quotient = dividend / divisor;
        // Sizes alone are divided: Java cuts towards 0, and setting the low bit would then move
        // a negative quotient to the wrong side.
        if (quotient * divisor != dividend) {
            quotient |= 1;
        }
        return (a < 0) == (b < 0) ? quotient : -quotient;
    }

    /** The square root in quarters of a count of units that isn't below 0. */
    private static long rootOf(long number) {
        long square = number << (QUARTER_PLACES + QUARTER_PLACES - UNIT_PLACES);
        long found = 0;
        for (int bit = ROOT_BITS - 1; bit >= 0; bit--) {
            long tried = found | (1L << bit);
            if (tried * tried <= square) {
                found = tried;
            }
        }
        return found * found == square ? found : found | 1;
    }

    /** How often 2 divides the number; 0 for 0. */
    private static int twosIn(long number) {
        if (number == 0) {
            return 0;
        }
        int twos = 0;
        for (int bit = 0; bit < NUMBER_BITS; bit++) {
            if (((number >> bit) & 1) != 0) {
                break;
            }
            twos++;
        }
        return twos;
    }

    private int putInvalid(int r) {
        registers[r] = 0;
        untaken |= INVALID;
        return INVALID;
    }

    private int putRounded(int r, long quarters) {
        long result = rounded(quarters, mode);
        int flags = 0;
        if ((result << QUARTER_BITS) != quarters) {
            flags |= INEXACT;
        }
        if (isBeyond(quarters)) {
            flags |= LIMIT;
        }
        registers[r] = result;
        untaken |= flags;
        return flags;
    }

    private boolean isBeyond(long quarters) {
        long size = sizeOf(quarters);
        return size > (greatest << QUARTER_BITS);
    }

    /** The count of units that a count of quarters is rounded to. */
    private long rounded(long quarters, int how) {
        boolean negative = quarters < 0;
        if (isBeyond(quarters)) {
            return negative ? -greatest : greatest;
        }
        long size = sizeOf(quarters);
        int gapBits = gapBitsAt(size);
        long multiple = size >> gapBits;
        long rest = size - (multiple << gapBits);
        if (rest != 0 && goesOutward(negative, multiple, rest, 1L << gapBits, how)) {
            multiple++;
        }
        long result = (multiple << gapBits) >> QUARTER_BITS;
        return negative ? -result : result;
    }

    /** The power of two, in quarters, that parts the numbers on either side of this size. */
    private int gapBitsAt(long size) {
        int gapBits = QUARTER_BITS;
        for (int step = 0; step < GREATEST_SHIFT; step++) {
            if ((size >> gapBits) >> digits == 0) {
                break;
            }
            gapBits++;
        }
        return gapBits;
    }

    /** Whether a value between two numbers is rounded to the one farther from 0. */
    private static boolean goesOutward(boolean negative, long multiple, long rest, long gap, int how) {
        if (how == DOWN) {
            return negative;
        }
        if (how == UP) {
            return !negative;
        }
        if (how == TO_ZERO) {
            return false;
        }
        if (rest + rest == gap) {
            return (multiple & 1) != 0;
        }
        return rest + rest > gap;
    }
}
