import java.math.BigInteger;
import java.util.ArrayList;
import java.util.Arrays;
import java.util.List;
import java.util.function.Supplier;

/** Compares every operation, load and next with the document's own words, one call at a time. */
public final class OracleTest {
    private static final String[] NAMES = {"add", "sub", "mul", "div", "root", "fuse"};

    private static long checked = 0;
    private static int wrong = 0;
    private static long seed = 20261115L;

    private static int operate(RoundedFloats x, int operation) {
        switch (operation) {
            case Document.ADD: return x.add(3, 0, 1);
            case Document.SUB: return x.sub(3, 0, 1);
            case Document.MUL: return x.mul(3, 0, 1);
            case Document.DIV: return x.div(3, 0, 1);
            case Document.ROOT: return x.root(3, 0);
            default: return x.fuse(3, 0 + 4 * 1 + 16 * 2);
        }
    }

    private static int twosIn(long units) {
        return units == 0 ? 0 : Long.numberOfTrailingZeros(units);
    }

    private static void put(RoundedFloats x, int r, long units) {
        int twos = twosIn(units);
        expect(x.load(r, (int) (units >> twos), twos - 12) == 0, () -> "a number is loaded inexactly: " + units);
    }

    private static boolean holds(RoundedFloats x, int r, long units) {
        int twos = twosIn(units);
        return x.mantissa(r) == units >> twos && x.exponent(r) == (units == 0 ? 0 : twos - 12);
    }

    private static void expect(boolean asDue, Supplier<String> what) {
        checked++;
        if (!asDue) {
            wrong++;
            if (wrong <= 50) {
                System.out.println(what.get());
            }
        }
    }

    private static void check(int precision, long[] numbers, int first, int last, long... operands) {
        RoundedFloats x = new RoundedFloats(precision);
        for (int r = 0; r < 3; r++) {
            put(x, r, operands[r]);
        }
        for (int mode = 0; mode < 4; mode++) {
            for (int operation = first; operation <= last; operation++) {
                checkOne(x, numbers, mode, operation, operands);
            }
        }
    }

    private static void checkOne(RoundedFloats x, long[] numbers, int mode, int operation, long... operands) {
        x.setMode(mode);
        Document.Exact v = Document.exactOf(operation, operands[0], operands[1], operands[2]);
        Document.Answer due = v == null ? new Document.Answer(0, 4) : Document.rounded(numbers, v, mode);
        int flags = operate(x, operation);
        boolean asDue = flags == due.flags() && holds(x, 3, due.units()) && x.takeFlags() == due.flags();
        expect(asDue, () -> "p=" + x.precision() + " mode=" + mode + " " + NAMES[operation] + " of "
            + Arrays.toString(operands) + " units: answered " + flags + " with " + x.mantissa(3) + " * 2^"
            + x.exponent(3) + ", due is " + due);
    }

    private static void allPairs(int precision) {
        long[] numbers = Document.numbersOf(precision);
        for (long a : numbers) {
            for (long b : numbers) {
                check(precision, numbers, Document.ADD, Document.DIV, a, b, 0);
            }
        }
    }

    private static void allTriples(int precision) {
        long[] numbers = Document.numbersOf(precision);
        for (long a : numbers) {
            for (long b : numbers) {
                for (long c : numbers) {
                    check(precision, numbers, Document.FUSE, Document.FUSE, a, b, c);
                }
            }
        }
    }

    private static void allRootsAndNeighbours(int precision) {
        long[] numbers = Document.numbersOf(precision);
        for (int i = 0; i < numbers.length; i++) {
            check(precision, numbers, Document.ROOT, Document.ROOT, numbers[i], 0, 0);
            checkNeighbour(precision, numbers, i, i + 1, true);
            checkNeighbour(precision, numbers, i, i - 1, false);
        }
    }

    private static void checkNeighbour(int precision, long[] numbers, int from, int to, boolean up) {
        RoundedFloats x = new RoundedFloats(precision);
        put(x, 0, numbers[from]);
        boolean exists = to >= 0 && to < numbers.length;
        boolean asDue = x.next(0, up) == exists && holds(x, 0, numbers[exists ? to : from]) && x.takeFlags() == 0;
        put(x, 1, numbers[from]);
        asDue &= x.compare(0, 1) == (exists ? Integer.compare(to, from) : 0);
        asDue &= x.compare(1, 0) == (exists ? Integer.compare(from, to) : 0);
        expect(asDue, () -> "p=" + precision + " next of " + numbers[from] + " units, up " + up);
    }

    /** A fixed sequence, so that every run of the test is the same. */
    private static int drawn(int bound) {
        seed = seed * 6364136223846793005L + 1442695040888963407L;
        return (int) ((seed >>> 33) % bound);
    }

    private static long drawnNumber(int precision) {
        long m = drawn(1 << precision);
        long units = m << drawn(24);
        return drawn(2) == 0 ? units : -units;
    }

    private static List<Long> edges(int precision) {
        long top = (1L << precision) - 1;
        List<Long> found = new ArrayList<>();
        long[] sizes = {1, 2, 3, top, top + 1, 1L << 11, 1L << 12, top << 1, top << 12, top << 22, (top - 1) << 23, top << 23};
        found.add(0L);
        for (long size : sizes) {
            found.add(size);
            found.add(-size);
        }
        return found;
    }

    private static void edgeTriples(int precision) {
        long[] numbers = Document.numbersOf(precision);
        for (long a : edges(precision)) {
            for (long b : edges(precision)) {
                check(precision, numbers, Document.ADD, Document.DIV, a, b, 0);
                for (long c : edges(precision)) {
                    check(precision, numbers, Document.FUSE, Document.FUSE, a, b, c);
                }
            }
        }
    }

    private static void drawnTriples(int precision, int count) {
        long[] numbers = Document.numbersOf(precision);
        for (int i = 0; i < count; i++) {
            long a = drawnNumber(precision);
            long b = drawnNumber(precision);
            check(precision, numbers, Document.ADD, Document.FUSE, a, b, drawnNumber(precision));
            // A third operand near the product's negative leaves only the product's last places.
            BigInteger product = BigInteger.valueOf(a).multiply(BigInteger.valueOf(b)).negate();
            Document.Exact near = Document.fraction(product, BigInteger.ONE.shiftLeft(24));
            long c = Document.rounded(numbers, near, drawn(4)).units();
            check(precision, numbers, Document.FUSE, Document.FUSE, a, b, c);
        }
    }

    private static void checkLoad(int precision, long[] numbers, int m, int e) {
        RoundedFloats x = new RoundedFloats(precision);
        for (int mode = 0; mode < 4; mode++) {
            checkOneLoad(x, numbers, mode, m, e);
        }
    }

    private static void checkOneLoad(RoundedFloats x, long[] numbers, int mode, int m, int e) {
        x.setMode(mode);
        Document.Answer due = Document.rounded(numbers, Document.exactLoad(m, e), mode);
        boolean asDue = x.load(2, m, e) == due.flags() && holds(x, 2, due.units()) && x.takeFlags() == due.flags();
        expect(asDue, () -> "p=" + x.precision() + " mode=" + mode + " load of " + m + " * 2^" + e + ", due is " + due);
    }

    private static void loads(int precision) {
        long[] numbers = Document.numbersOf(precision);
        for (int e = -20; e <= 20; e++) {
            for (int m = 0; m <= 40; m++) {
                checkLoad(precision, numbers, m, e);
                checkLoad(precision, numbers, -m, e);
                checkLoad(precision, numbers, 1000000 - m, e);
                checkLoad(precision, numbers, m - 1000000, e);
            }
            for (int i = 0; i < 200; i++) {
                int bits = 1 + drawn(20);
                int m = Math.min(1000000, drawn(1 << bits));
                checkLoad(precision, numbers, drawn(2) == 0 ? m : -m, e);
            }
        }
    }

    public static void main(String[] args) {
        allPairs(2);
        allPairs(3);
        allTriples(2);
        for (int precision = 2; precision <= 10; precision++) {
            loads(precision);
            allRootsAndNeighbours(precision);
            edgeTriples(precision);
            drawnTriples(precision, 4000);
        }
        System.out.println(checked + " answers checked, " + wrong + " not as due");
        if (wrong != 0) {
            System.exit(1);
        }
    }
}
