import java.math.BigInteger;
import java.util.TreeSet;

/**
 * The document's own words, slowly: all numbers of a precision are listed, the exact value is kept
 * as a fraction (or as the root of one), and its neighbours are looked up.
 */
final class Document {
    static final int ADD = 0;
    static final int SUB = 1;
    static final int MUL = 2;
    static final int DIV = 3;
    static final int ROOT = 4;
    static final int FUSE = 5;

    private Document() { }

    /** numerator / denominator, or the square root of that; the denominator is above 0. */
    record Exact(BigInteger numerator, BigInteger denominator, boolean isRoot) {
        /** Compares count * 2^-13 with this value. */
        int comparedWithHalves(long count) {
            BigInteger halves = BigInteger.valueOf(count);
            if (!isRoot) {
                return halves.multiply(denominator).compareTo(numerator.shiftLeft(13));
            }
            if (count < 0) {
                return -1;
            }
            return halves.multiply(halves).multiply(denominator).compareTo(numerator.shiftLeft(26));
        }
    }

    record Answer(long units, int flags) { }

    /** All numbers of a precision in units of 2^-12, ascending. */
    static long[] numbersOf(int precision) {
        TreeSet<Long> all = new TreeSet<>();
        for (int e = 0; e <= 23; e++) {
            for (long m = 0; m < 1L << precision; m++) {
                all.add(m << e);
                all.add(-(m << e));
            }
        }
        return all.stream().mapToLong(Long::longValue).toArray();
    }

    static Answer rounded(long[] numbers, Exact v, int mode) {
        long least = numbers[0];
        long greatest = numbers[numbers.length - 1];
        if (v.comparedWithHalves(2 * greatest) < 0) {
            return new Answer(greatest, 3);
        }
        if (v.comparedWithHalves(2 * least) > 0) {
            return new Answer(least, 3);
        }
        int low = 0;
        int high = numbers.length - 1;
        while (low < high) {
            int middle = (low + high + 1) / 2;
            if (v.comparedWithHalves(2 * numbers[middle]) <= 0) {
                low = middle;
            } else {
                high = middle - 1;
            }
        }
        if (v.comparedWithHalves(2 * numbers[low]) == 0) {
            return new Answer(numbers[low], 0);
        }
        return new Answer(chosen(numbers[low], numbers[low + 1], v, mode), 1);
    }

    private static long chosen(long a, long b, Exact v, int mode) {
        if (mode == 1) {
            return a;
        }
        if (mode == 2) {
            return b;
        }
        if (mode == 3) {
            return Math.abs(a) < Math.abs(b) ? a : b;
        }
        int middle = v.comparedWithHalves(a + b);
        if (middle != 0) {
            return middle > 0 ? a : b;
        }
        return a % (2 * (b - a)) == 0 ? a : b;
    }

    static Exact fraction(BigInteger numerator, BigInteger denominator) {
        return denominator.signum() < 0
            ? new Exact(numerator.negate(), denominator.negate(), false)
            : new Exact(numerator, denominator, false);
    }

    /** The exact value, or nothing where there is none. */
    static Exact exactOf(int operation, long a, long b, long c) {
        BigInteger one = BigInteger.ONE.shiftLeft(12);
        BigInteger x = BigInteger.valueOf(a);
        BigInteger y = BigInteger.valueOf(b);
        BigInteger z = BigInteger.valueOf(c);
        switch (operation) {
            case ADD: return fraction(x.add(y), one);
            case SUB: return fraction(x.subtract(y), one);
            case MUL: return fraction(x.multiply(y), one.multiply(one));
            case DIV: return b == 0 ? null : fraction(x, y);
            case ROOT: return a < 0 ? null : new Exact(x, one, true);
            default: return fraction(x.multiply(y).add(z.multiply(one)), one.multiply(one));
        }
    }

    static Exact exactLoad(int m, int e) {
        return fraction(BigInteger.valueOf(m).shiftLeft(e + 20), BigInteger.ONE.shiftLeft(20));
    }
}
