import java.util.Arrays;

/** An object as the document tells it, over the slow rounding of {@link Document}. */
final class Model {
    private static final int BAD = -1;

    private final int precision;
    private final long[] numbers;
    private final long[] units = new long[4];
    private int mode = 0;
    private int flags = 0;

    /** The numbers are those of the precision, which is 2 .. 10 here. */
    Model(int precision, long[] numbers) {
        this.precision = precision;
        this.numbers = numbers;
    }

    /** The answer that is due to the call; a boolean counts 1 or 0. */
    int answerOf(String name, int... given) {
        switch (name) {
            case "precision": return precision;
            case "setMode": return setMode(given[0]);
            case "load": return load(given[0], given[1], given[2]);
            case "add": return operate(Document.ADD, given[0], given[1], given[2], 0);
            case "sub": return operate(Document.SUB, given[0], given[1], given[2], 0);
            case "mul": return operate(Document.MUL, given[0], given[1], given[2], 0);
            case "div": return operate(Document.DIV, given[0], given[1], given[2], 0);
            case "root": return operate(Document.ROOT, given[0], given[1], 0, 0);
            case "fuse": return fuse(given[0], given[1]);
            case "mantissa": return mantissa(given[0]);
            case "exponent": return exponent(given[0]);
            case "compare": return compare(given[0], given[1]);
            case "next": return next(given[0], given[1] == 1);
            case "takeFlags": return takeFlags();
            default: throw new IllegalArgumentException(name);
        }
    }

    private static boolean within(int value, int least, int greatest) {
        return least <= value && value <= greatest;
    }

    private static boolean isRegister(int r) {
        return within(r, 0, 3);
    }

    private int setMode(int wanted) {
        if (!within(wanted, 0, 3)) {
            return 0;
        }
        mode = wanted;
        return 1;
    }

    private int load(int r, int m, int e) {
        if (!isRegister(r) || !within(m, -1000000, 1000000) || !within(e, -20, 20)) {
            return BAD;
        }
        return put(r, Document.rounded(numbers, Document.exactLoad(m, e), mode));
    }

    private int operate(int operation, int r, int a, int b, int c) {
        if (!isRegister(r) || !isRegister(a) || !isRegister(b)) {
            return BAD;
        }
        Document.Exact v = Document.exactOf(operation, units[a], units[b], units[c]);
        return put(r, v == null ? new Document.Answer(0, 4) : Document.rounded(numbers, v, mode));
    }

    private int fuse(int r, int abc) {
        if (!within(abc, 0, 63)) {
            return BAD;
        }
        return operate(Document.FUSE, r, abc % 4, abc / 4 % 4, abc / 16);
    }

    private int put(int r, Document.Answer answer) {
        units[r] = answer.units();
        flags |= answer.flags();
        return answer.flags();
    }

    private int mantissa(int r) {
        if (!isRegister(r) || units[r] == 0) {
            return 0;
        }
        long m = units[r];
        while (m % 2 == 0) {
            m /= 2;
        }
        return (int) m;
    }

    private int exponent(int r) {
        if (!isRegister(r) || units[r] == 0) {
            return 0;
        }
        int e = -12;
        for (long m = units[r]; m % 2 == 0; m /= 2) {
            e++;
        }
        return e;
    }

    private int compare(int a, int b) {
        return isRegister(a) && isRegister(b) ? Long.compare(units[a], units[b]) : 0;
    }

    private int next(int r, boolean up) {
        if (!isRegister(r)) {
            return 0;
        }
        int place = Arrays.binarySearch(numbers, units[r]) + (up ? 1 : -1);
        if (!within(place, 0, numbers.length - 1)) {
            return 0;
        }
        units[r] = numbers[place];
        return 1;
    }

    private int takeFlags() {
        int taken = flags;
        flags = 0;
        return taken;
    }
}
