import java.math.BigInteger;
import java.util.ArrayList;
import java.util.Arrays;
import java.util.List;
import java.util.TreeSet;

/**
 * Compares every operation with the document's own words: all numbers of a precision are listed,
 * the exact value is kept as a fraction (or as the root of one), and its neighbours are looked up.
 */
public final class OracleTest {
    private static final String[] NAMES = {"add", "sub", "mul", "div", "root", "fuse"};
    private static final int ROOT = 4;
    private static final int FUSE = 5;

    private static long checked = 0;
    private static int wrong = 0;
    private static long seed = 20261115L;

    /** numerator / denominator, or the square root of that; the denominator is above 0. */
    private record Exact(BigInteger numerator, BigInteger denominator, boolean isRoot) {
        /** Compares count * 2^-13 with this value. */
        int comparedWithHalves(long count) {
            BigInteger halves = BigInteger.valueOf(count);
            if (!isRoot) {
                return halves.multiply(denominator).compareTo(numerator.shiftLeft(13));
            }
            if (count < 0) {
                return -1;
            }
            return halves.multiply(halves).multiply(denominator).compareTo(numerator.shiftLeft(26));
        }
    }

    private record Answer(long units, int flags) { }

    /** All numbers of a precision in units of 2^-12, ascending. */
    private static long[] numbersOf(int precision) {
        TreeSet<Long> all = new TreeSet<>();
        for (int e = 0; e <= 23; e++) {
            for (long m = 0; m < 1L << precision; m++) {
                all.add(m << e);
                all.add(-(m << e));
            }
        }
        return all.stream().mapToLong(Long::longValue).toArray();
    }

    private static Answer roundedByTheDocument(long[] numbers, Exact v, int mode) {
        long least = numbers[0];
        long greatest = numbers[numbers.length - 1];
        if (v.comparedWithHalves(2 * greatest) < 0) {
            return new Answer(greatest, 3);
        }
        if (v.comparedWithHalves(2 * least) > 0) {
            return new Answer(least, 3);
        }
        int low = 0;
        int high = numbers.length - 1;
        while (low < high) {
            int middle = (low + high + 1) / 2;
            if (v.comparedWithHalves(2 * numbers[middle]) <= 0) {
                low = middle;
            } else {
                high = middle - 1;
            }
        }
        if (v.comparedWithHalves(2 * numbers[low]) == 0) {
            return new Answer(numbers[low], 0);
        }
        return new Answer(chosen(numbers[low], numbers[low + 1], v, mode), 1);
    }

    private static long chosen(long a, long b, Exact v, int mode) {
        if (mode == 1) {
            return a;
        }
        if (mode == 2) {
            return b;
        }
        if (mode == 3) {
            return Math.abs(a) < Math.abs(b) ? a : b;
        }
        int middle = v.comparedWithHalves(a + b);
        if (middle != 0) {
            return middle > 0 ? a : b;
        }
        return a % (2 * (b - a)) == 0 ? a : b;
    }

    private static Exact fraction(BigInteger numerator, BigInteger denominator) {
        return denominator.signum() < 0
            ? new Exact(numerator.negate(), denominator.negate(), false)
            : new Exact(numerator, denominator, false);
    }

    /** The exact value, or nothing where there is none. */
    private static Exact exactOf(int operation, long a, long b, long c) {
        BigInteger one = BigInteger.ONE.shiftLeft(12);
        BigInteger x = BigInteger.valueOf(a);
        BigInteger y = BigInteger.valueOf(b);
        BigInteger z = BigInteger.valueOf(c);
        switch (operation) {
            case 0: return fraction(x.add(y), one);
            case 1: return fraction(x.subtract(y), one);
            case 2: return fraction(x.multiply(y), one.multiply(one));
            case 3: return b == 0 ? null : fraction(x, y);
            case ROOT: return a < 0 ? null : new Exact(x, one, true);
            default: return fraction(x.multiply(y).add(z.multiply(one)), one.multiply(one));
        }
    }

    private static int operate(RoundedFloats x, int operation) {
        switch (operation) {
            case 0: return x.add(3, 0, 1);
            case 1: return x.sub(3, 0, 1);
            case 2: return x.mul(3, 0, 1);
            case 3: return x.div(3, 0, 1);
            case ROOT: return x.root(3, 0);
            default: return x.fuse(3, 0 + 4 * 1 + 16 * 2);
        }
    }

    private static int twosIn(long units) {
        return units == 0 ? 0 : Long.numberOfTrailingZeros(units);
    }

    private static void put(RoundedFloats x, int r, long units) {
        int twos = twosIn(units);
        expect(x.load(r, (int) (units >> twos), twos - 12) == 0, "a number is loaded inexactly: " + units);
    }

    private static boolean holds(RoundedFloats x, int r, long units) {
        int twos = twosIn(units);
        return x.mantissa(r) == units >> twos && x.exponent(r) == (units == 0 ? 0 : twos - 12);
    }

    private static void expect(boolean asDue, String what) {
        checked++;
        if (!asDue) {
            wrong++;
            if (wrong <= 50) {
                System.out.println(what);
            }
        }
    }

    private static void check(int precision, long[] numbers, int first, int last, long... operands) {
        RoundedFloats x = new RoundedFloats(precision);
        for (int r = 0; r < 3; r++) {
            put(x, r, operands[r]);
        }
        for (int mode = 0; mode < 4; mode++) {
            x.setMode(mode);
            for (int operation = first; operation <= last; operation++) {
                Exact v = exactOf(operation, operands[0], operands[1], operands[2]);
                Answer due = v == null ? new Answer(0, 4) : roundedByTheDocument(numbers, v, mode);
                int flags = operate(x, operation);
                boolean asDue = flags == due.flags() && holds(x, 3, due.units()) && x.takeFlags() == due.flags();
                expect(asDue, "p=" + precision + " mode=" + mode + " " + NAMES[operation] + " of "
                    + Arrays.toString(operands) + " units: answered " + flags + " with " + x.mantissa(3) + " * 2^"
                    + x.exponent(3) + ", due is " + due);
            }
        }
    }

    private static void allPairs(int precision) {
        long[] numbers = numbersOf(precision);
        for (long a : numbers) {
            for (long b : numbers) {
                check(precision, numbers, 0, 3, a, b, 0);
            }
        }
    }

    private static void allRootsAndNeighbours(int precision) {
        long[] numbers = numbersOf(precision);
        for (int i = 0; i < numbers.length; i++) {
            check(precision, numbers, ROOT, ROOT, numbers[i], 0, 0);
            checkNeighbour(precision, numbers, i, i + 1, true);
            checkNeighbour(precision, numbers, i, i - 1, false);
        }
    }

    private static void checkNeighbour(int precision, long[] numbers, int from, int to, boolean up) {
        RoundedFloats x = new RoundedFloats(precision);
        put(x, 0, numbers[from]);
        boolean exists = to >= 0 && to < numbers.length;
        boolean asDue = x.next(0, up) == exists && holds(x, 0, numbers[exists ? to : from]) && x.takeFlags() == 0;
        put(x, 1, numbers[from]);
        asDue &= x.compare(0, 1) == (exists ? Integer.compare(to, from) : 0);
        asDue &= x.compare(1, 0) == (exists ? Integer.compare(from, to) : 0);
        expect(asDue, "p=" + precision + " next of " + numbers[from] + " units, up " + up);
    }

    /** A fixed sequence, so that every run of the test is the same. */
    private static int drawn(int bound) {
        seed = seed * 6364136223846793005L + 1442695040888963407L;
        return (int) ((seed >>> 33) % bound);
    }

    private static long drawnNumber(int precision) {
        long m = drawn(1 << precision);
        long units = m << drawn(24);
        return drawn(2) == 0 ? units : -units;
    }

    private static List<Long> edges(int precision) {
        long top = (1L << precision) - 1;
        List<Long> found = new ArrayList<>();
        long[] sizes = {1, 2, 3, top, top + 1, 1L << 11, 1L << 12, top << 1, top << 12, top << 22, (top - 1) << 23, top << 23};
        found.add(0L);
        for (long size : sizes) {
            found.add(size);
            found.add(-size);
        }
        return found;
    }

    private static void edgeTriples(int precision) {
        long[] numbers = numbersOf(precision);
        for (long a : edges(precision)) {
            for (long b : edges(precision)) {
                check(precision, numbers, 0, 3, a, b, 0);
                for (long c : edges(precision)) {
                    check(precision, numbers, FUSE, FUSE, a, b, c);
                }
            }
        }
    }

    private static void drawnTriples(int precision, int count) {
        long[] numbers = numbersOf(precision);
        for (int i = 0; i < count; i++) {
            long a = drawnNumber(precision);
            long b = drawnNumber(precision);
            check(precision, numbers, 0, FUSE, a, b, drawnNumber(precision));
            // A third operand near the product's negative leaves only the product's last places.
            BigInteger product = BigInteger.valueOf(a).multiply(BigInteger.valueOf(b)).negate();
            Exact near = fraction(product, BigInteger.ONE.shiftLeft(24));
            long c = roundedByTheDocument(numbers, near, drawn(4)).units();
            check(precision, numbers, FUSE, FUSE, a, b, c);
        }
    }

    private static void checkLoad(int precision, long[] numbers, int m, int e) {
        BigInteger numerator = BigInteger.valueOf(m).shiftLeft(e + 20);
        Exact v = fraction(numerator, BigInteger.ONE.shiftLeft(20));
        RoundedFloats x = new RoundedFloats(precision);
        for (int mode = 0; mode < 4; mode++) {
            x.setMode(mode);
            Answer due = roundedByTheDocument(numbers, v, mode);
            boolean asDue = x.load(2, m, e) == due.flags() && holds(x, 2, due.units()) && x.takeFlags() == due.flags();
            expect(asDue, "p=" + precision + " mode=" + mode + " load of " + m + " * 2^" + e + ", due is " + due);
        }
    }

    private static void loads(int precision) {
        long[] numbers = numbersOf(precision);
        for (int e = -20; e <= 20; e++) {
            for (int m = 0; m <= 40; m++) {
                checkLoad(precision, numbers, m, e);
                checkLoad(precision, numbers, -m, e);
                checkLoad(precision, numbers, 1000000 - m, e);
                checkLoad(precision, numbers, m - 1000000, e);
            }
            for (int i = 0; i < 200; i++) {
                int bits = 1 + drawn(20);
                int m = Math.min(1000000, drawn(1 << bits));
                checkLoad(precision, numbers, drawn(2) == 0 ? m : -m, e);
            }
        }
    }

    public static void main(String[] args) {
        allPairs(2);
        allPairs(3);
        for (int precision = 2; precision <= 10; precision++) {
            loads(precision);
            allRootsAndNeighbours(precision);
            edgeTriples(precision);
            drawnTriples(precision, 4000);
        }
        System.out.println(checked + " answers checked, " + wrong + " not as due");
        if (wrong != 0) {
            System.exit(1);
        }
    }
}
