/** Written-out cases for each promise: ordinary inputs, the edges the document names, wrong inputs. */
public final class PromiseTest {
    private static final int[] NOT_REGISTERS = {-1, 4, 5, 7, Integer.MIN_VALUE, Integer.MAX_VALUE};
    private static final int NEAREST = 0;
    private static final int DOWN = 1;
    private static final int UP = 2;
    private static final int TO_ZERO = 3;

    private static int promise = 0;
    private static int checked = 0;
    private static int wrong = 0;

    private static void due(String what, long got, long want) {
        checked++;
        if (got != want) {
            wrong++;
            System.out.println("promise " + promise + ": " + what + " answered " + got + ", due is " + want);
        }
    }

    private static void due(String what, boolean got, boolean want) {
        due(what, got ? 1 : 0, want ? 1 : 0);
    }

    private static void holds(RoundedFloats x, int r, int m, int e) {
        due("mantissa(" + r + ")", x.mantissa(r), m);
        due("exponent(" + r + ")", x.exponent(r), e);
    }

    /** An object whose registers hold 3, -5/4, 7 * 2^-12 and 2^15, in mode UP, with INEXACT untaken. */
    private static RoundedFloats filled() {
        RoundedFloats x = new RoundedFloats(5);
        x.load(0, 3, 0);
        x.load(1, -5, -2);
        x.load(2, 7, -12);
        x.load(3, 1, -20);
        x.load(3, 1, 15);
        x.setMode(UP);
        return x;
    }

    private static void isStillFilled(RoundedFloats x) {
        holds(x, 0, 3, 0);
        holds(x, 1, -5, -2);
        holds(x, 2, 7, -12);
        holds(x, 3, 1, 15);
        due("precision after a wrong call", x.precision(), 5);
        due("flags after a wrong call", x.takeFlags(), 1);
        x.load(0, 33, 0);
        holds(x, 0, 17, 1);
    }

    private static RoundedFloats inMode(int precision, int mode) {
        RoundedFloats x = new RoundedFloats(precision);
        due("setMode(" + mode + ")", x.setMode(mode), true);
        return x;
    }

    private static void loads(int precision, int mode, int m, int e, int flags, int wantM, int wantE) {
        RoundedFloats x = inMode(precision, mode);
        due("p=" + precision + " mode=" + mode + " load(1, " + m + ", " + e + ")", x.load(1, m, e), flags);
        holds(x, 1, wantM, wantE);
        due("takeFlags after it", x.takeFlags(), flags);
    }

    private static void newObject() {
        promise = 1;
        for (int precision = -3; precision <= 14; precision++) {
            RoundedFloats x = new RoundedFloats(precision);
            for (int r = 0; r < 4; r++) {
                holds(x, r, 0, 0);
            }
            due("takeFlags", x.takeFlags(), 0);
            int clamped = Math.max(2, Math.min(10, precision));
            due("load of a tie", x.load(0, (1 << clamped) + 1, 0), 1);
            holds(x, 0, 1, clamped);
            due("load of the next tie", x.load(0, -(1 << clamped) - 3, 0), 1);
            int even = (1 << clamped) + 4;
            int twos = Integer.numberOfTrailingZeros(even);
            holds(x, 0, -even >> twos, twos);
            due("load of its opposite", x.load(0, (1 << clamped) + 3, 0), 1);
            holds(x, 0, even >> twos, twos);
        }
    }

    private static void precision() {
        promise = 2;
        for (int precision = 2; precision <= 10; precision++) {
            due("precision", new RoundedFloats(precision).precision(), precision);
        }
        int[] low = {1, 0, -1, Integer.MIN_VALUE};
        for (int precision : low) {
            due("precision of " + precision, new RoundedFloats(precision).precision(), 2);
        }
        int[] high = {11, 12, 34, 66, Integer.MAX_VALUE};
        for (int precision : high) {
            due("precision of " + precision, new RoundedFloats(precision).precision(), 10);
        }
    }

    private static void setMode() {
        promise = 3;
        RoundedFloats x = new RoundedFloats(2);
        for (int mode = 0; mode < 4; mode++) {
            due("setMode(" + mode + ")", x.setMode(mode), true);
        }
        int[] modes = {-1, 4, 5, -4, Integer.MIN_VALUE, Integer.MAX_VALUE};
        for (int mode : modes) {
            RoundedFloats y = filled();
            due("setMode(" + mode + ")", y.setMode(mode), false);
            isStillFilled(y);
        }
        loads(3, NEAREST, 17, 0, 1, 1, 4);
        loads(3, DOWN, 17, 0, 1, 1, 4);
        loads(3, UP, 17, 0, 1, 5, 2);
        loads(3, TO_ZERO, 17, 0, 1, 1, 4);
        loads(3, NEAREST, -19, 0, 1, -5, 2);
        loads(3, DOWN, -17, 0, 1, -5, 2);
        loads(3, UP, -19, 0, 1, -1, 4);
        loads(3, TO_ZERO, -19, 0, 1, -1, 4);
    }

    private static void load() {
        promise = 4;
        loads(4, NEAREST, 0, 20, 0, 0, 0);
        loads(4, NEAREST, 0, -20, 0, 0, 0);
        loads(4, NEAREST, 12, 0, 0, 3, 2);
        loads(4, NEAREST, -1000000, 20, 3, -15, 11);
        loads(10, NEAREST, 1000000, -20, 1, 977, -10);
        loads(10, NEAREST, -1000000, 0, 1, -977, 10);
        loads(10, TO_ZERO, 1000000, 0, 1, 61, 14);
        theGreatestNumber();
        aroundZero();
        ties();
        wrongLoads();
    }

    private static void theGreatestNumber() {
        loads(3, NEAREST, 7, 11, 0, 7, 11);
        loads(3, NEAREST, 14, 10, 0, 7, 11);
        loads(3, NEAREST, 3, 12, 0, 3, 12);
        loads(3, NEAREST, 1, 13, 0, 1, 13);
        loads(3, NEAREST, 1, 14, 3, 7, 11);
        loads(2, NEAREST, 1, 12, 0, 1, 12);
        loads(2, NEAREST, 1, 13, 3, 3, 11);
        for (int mode = 0; mode < 4; mode++) {
            loads(3, mode, 57, 8, 3, 7, 11);
            loads(3, mode, -57, 8, 3, -7, 11);
            loads(3, mode, 7 * 65536 + 1, -5, 3, 7, 11);
            loads(3, mode, 1, 20, 3, 7, 11);
            loads(3, mode, -1, 20, 3, -7, 11);
        }
        loads(3, NEAREST, 13, 10, 1, 3, 12);
        loads(3, UP, 13, 10, 1, 7, 11);
        loads(3, DOWN, -13, 10, 1, -7, 11);
        loads(3, NEAREST, 53, 8, 1, 7, 11);
    }

    private static void aroundZero() {
        loads(5, NEAREST, 1, -12, 0, 1, -12);
        loads(5, NEAREST, 1, -13, 1, 0, 0);
        loads(5, NEAREST, -1, -13, 1, 0, 0);
        loads(5, NEAREST, 129, -20, 1, 1, -12);
        loads(5, NEAREST, 127, -20, 1, 0, 0);
        loads(5, NEAREST, -129, -20, 1, -1, -12);
        loads(5, NEAREST, 3, -13, 1, 1, -11);
        loads(5, NEAREST, 5, -13, 1, 1, -11);
        loads(5, DOWN, 1, -20, 1, 0, 0);
        loads(5, DOWN, -1, -20, 1, -1, -12);
        loads(5, UP, 1, -20, 1, 1, -12);
        loads(5, UP, -1, -20, 1, 0, 0);
        loads(5, TO_ZERO, 255, -20, 1, 0, 0);
        loads(5, TO_ZERO, -255, -20, 1, 0, 0);
    }

    private static void ties() {
        loads(3, NEAREST, 9, 0, 1, 1, 3);
        loads(3, NEAREST, 11, 0, 1, 3, 2);
        loads(3, NEAREST, 13, 0, 1, 3, 2);
        loads(3, NEAREST, 15, 0, 1, 1, 4);
        loads(3, NEAREST, 901, -6, 1, 7, 1);
        loads(3, NEAREST, 961, -6, 1, 1, 4);
        loads(3, NEAREST, 959, -6, 1, 7, 1);
        loads(2, NEAREST, -5, 0, 1, -1, 2);
        loads(2, NEAREST, -7, 0, 1, -1, 3);
        loads(10, NEAREST, 2047, -12, 1, 1, -1);
        loads(10, NEAREST, 1025, -12, 1, 1, -2);
        loads(10, NEAREST, 1023, -12, 0, 1023, -12);
    }

    private static void wrongLoads() {
        for (int r : NOT_REGISTERS) {
            RoundedFloats x = filled();
            due("load(" + r + ", 1, 0)", x.load(r, 1, 0), -1);
            isStillFilled(x);
        }
        int[] mantissas = {1000001, -1000001, Integer.MIN_VALUE, Integer.MAX_VALUE};
        for (int m : mantissas) {
            RoundedFloats x = filled();
            due("load(0, " + m + ", 0)", x.load(0, m, 0), -1);
            isStillFilled(x);
        }
        int[] exponents = {21, -21, 64, Integer.MIN_VALUE, Integer.MAX_VALUE};
        for (int e : exponents) {
            RoundedFloats x = filled();
            due("load(0, 0, " + e + ")", x.load(0, 0, e), -1);
            isStillFilled(x);
        }
    }

    private static int operate(RoundedFloats x, int operation, int r, int a, int b) {
        switch (operation) {
            case 5: return x.add(r, a, b);
            case 6: return x.sub(r, a, b);
            case 7: return x.mul(r, a, b);
            default: return x.div(r, a, b);
        }
    }

    /** Runs the promise's operation on two loaded numbers, and checks what it answers and leaves. */
    private static void gives(int precision, int mode, int[] operands, int flags, int m, int e) {
        RoundedFloats x = inMode(precision, mode);
        due("load of the left operand", x.load(1, operands[0], operands[1]), 0);
        due("load of the right operand", x.load(2, operands[2], operands[3]), 0);
        String what = "p=" + precision + " mode=" + mode + " on " + java.util.Arrays.toString(operands);
        due(what, operate(x, promise, 3, 1, 2), flags);
        due(what + ": mantissa", x.mantissa(3), m);
        due(what + ": exponent", x.exponent(3), e);
        due(what + ": takeFlags", x.takeFlags(), flags);
        due(what + ": left again", x.compare(0, 1), Integer.compare(0, operands[0]));
        due(what + " in place", operate(x, promise, 2, 1, 2), flags);
        due(what + " in place: mantissa", x.mantissa(2), m);
        due(what + " in place: exponent", x.exponent(2), e);
    }

    private static int[] on(int m1, int e1, int m2, int e2) {
        return new int[] {m1, e1, m2, e2};
    }

    private static void wrongRegisters() {
        for (int bad : NOT_REGISTERS) {
            for (int place = 0; place < 3; place++) {
                RoundedFloats x = filled();
                int got = operate(x, promise, place == 0 ? bad : 0, place == 1 ? bad : 1, place == 2 ? bad : 2);
                due("with " + bad + " at place " + place, got, -1);
                isStillFilled(x);
            }
        }
    }

    private static void add() {
        promise = 5;
        gives(4, NEAREST, on(3, 0, 5, 0), 0, 1, 3);
        gives(4, NEAREST, on(3, 0, -5, 0), 0, -1, 1);
        gives(4, NEAREST, on(5, 3, -5, 3), 0, 0, 0);
        gives(4, NEAREST, on(0, 0, 0, 0), 0, 0, 0);
        gives(4, NEAREST, on(13, 0, 7, -2), 1, 15, 0);
        gives(4, DOWN, on(13, 0, 7, -2), 1, 7, 1);
        gives(4, UP, on(-13, 0, -7, -2), 1, -7, 1);
        gives(4, NEAREST, on(1, 11, 1, -12), 1, 1, 11);
        gives(4, UP, on(1, 11, 1, -12), 1, 9, 8);
        gives(4, DOWN, on(1, 11, -1, -12), 1, 15, 7);
        gives(4, NEAREST, on(15, 11, 1, -12), 3, 15, 11);
        gives(4, DOWN, on(15, 11, 1, -12), 3, 15, 11);
        gives(4, UP, on(-15, 11, -15, 11), 3, -15, 11);
        gives(4, TO_ZERO, on(15, 11, -1, -12), 1, 7, 12);
        gives(10, NEAREST, on(1023, 11, 1023, 11), 3, 1023, 11);
        wrongRegisters();
    }

    private static void sub() {
        promise = 6;
        gives(4, NEAREST, on(3, 0, 5, 0), 0, -1, 1);
        gives(4, NEAREST, on(5, 0, 3, 0), 0, 1, 1);
        gives(4, NEAREST, on(7, -12, 7, -12), 0, 0, 0);
        gives(4, NEAREST, on(0, 0, 7, 2), 0, -7, 2);
        gives(4, NEAREST, on(9, -12, 1, -9), 0, 1, -12);
        gives(4, NEAREST, on(1, 0, 1, -12), 1, 1, 0);
        gives(4, TO_ZERO, on(1, 0, 1, -12), 1, 15, -4);
        gives(4, UP, on(-1, 0, 1, -12), 1, -1, 0);
        gives(4, DOWN, on(-1, 0, 1, -12), 1, -9, -3);
        gives(4, UP, on(-15, 11, 1, -12), 3, -15, 11);
        gives(10, NEAREST, on(1023, 11, -1023, 11), 3, 1023, 11);
        gives(10, NEAREST, on(-1023, 11, 1023, 11), 3, -1023, 11);
        wrongRegisters();
    }

    private static void mul() {
        promise = 7;
        gives(4, NEAREST, on(3, 2, 5, -4), 0, 15, -2);
        gives(4, NEAREST, on(3, 2, 0, 0), 0, 0, 0);
        gives(4, NEAREST, on(0, 0, -3, 2), 0, 0, 0);
        gives(4, NEAREST, on(-3, 2, 5, -4), 0, -15, -2);
        gives(4, NEAREST, on(-3, 2, -5, -4), 0, 15, -2);
        gives(4, NEAREST, on(3, 0, 11, 0), 1, 1, 5);
        gives(4, UP, on(3, 0, 11, 0), 1, 9, 2);
        gives(4, UP, on(1, -12, 1, -12), 1, 1, -12);
        gives(4, UP, on(-1, -12, 1, -12), 1, 0, 0);
        gives(4, DOWN, on(-1, -12, 1, -12), 1, -1, -12);
        gives(4, NEAREST, on(1, -12, 1, -1), 1, 0, 0);
        gives(4, NEAREST, on(3, -12, 1, -1), 1, 1, -11);
        gives(4, NEAREST, on(1, -12, 9, -4), 1, 1, -12);
        gives(4, DOWN, on(15, 11, 15, 11), 3, 15, 11);
        gives(10, NEAREST, on(1023, 11, 1023, 11), 3, 1023, 11);
        gives(10, NEAREST, on(1, 20, 1, 20), 3, 1023, 11);
        gives(10, UP, on(-1, 20, 1, 20), 3, -1023, 11);
        gives(10, UP, on(1, 12, 1, 20), 3, 1023, 11);
        gives(10, NEAREST, on(1, 20, 1, 0), 0, 1, 20);
        gives(10, NEAREST, on(1, 20, 1, 1), 3, 1023, 11);
        gives(10, NEAREST, on(1, 20, 1, -12), 0, 1, 8);
        gives(10, NEAREST, on(1023, 11, 1, 0), 0, 1023, 11);
        wrongRegisters();
    }

    private static void div() {
        promise = 8;
        gives(4, NEAREST, on(15, 0, 3, 0), 0, 5, 0);
        gives(4, NEAREST, on(15, 0, -3, 0), 0, -5, 0);
        gives(4, NEAREST, on(0, 0, -3, 0), 0, 0, 0);
        gives(4, NEAREST, on(1, 0, 3, 0), 1, 11, -5);
        gives(4, DOWN, on(1, 0, 3, 0), 1, 5, -4);
        gives(4, DOWN, on(-1, 0, 3, 0), 1, -11, -5);
        gives(4, UP, on(1, 0, -3, 0), 1, -5, -4);
        gives(4, TO_ZERO, on(-1, 0, -3, 0), 1, 5, -4);
        gives(4, NEAREST, on(1, -12, 15, 11), 1, 0, 0);
        gives(4, UP, on(1, -12, 15, 11), 1, 1, -12);
        gives(4, DOWN, on(1, -12, -15, 11), 1, -1, -12);
        gives(4, UP, on(-1, -12, 15, 11), 1, 0, 0);
        gives(4, NEAREST, on(1, -12, 1, 1), 1, 0, 0);
        gives(4, NEAREST, on(3, -12, 5, 0), 1, 1, -12);
        gives(4, TO_ZERO, on(15, 11, 1, -12), 3, 15, 11);
        gives(10, NEAREST, on(-1023, 11, 1, -12), 3, -1023, 11);
        gives(4, NEAREST, on(1, 0, 0, 0), 4, 0, 0);
        gives(4, NEAREST, on(0, 0, 0, 0), 4, 0, 0);
        gives(4, UP, on(-15, 11, 0, 0), 4, 0, 0);
        invalidEmptiesTheRegister();
        wrongRegisters();
    }

    private static void invalidEmptiesTheRegister() {
        RoundedFloats x = new RoundedFloats(4);
        x.load(0, 5, 0);
        x.load(1, 7, 0);
        due("division by 0", x.div(0, 1, 2), 4);
        holds(x, 0, 0, 0);
        holds(x, 1, 7, 0);
        due("takeFlags", x.takeFlags(), 4);
    }

    private static void roots(int precision, int mode, int m, int e, int flags, int wantM, int wantE) {
        RoundedFloats x = inMode(precision, mode);
        due("load before root", x.load(2, m, e), 0);
        x.load(1, 3, 0);
        due("p=" + precision + " mode=" + mode + " root of " + m + " * 2^" + e, x.root(1, 2), flags);
        holds(x, 1, wantM, wantE);
        due("takeFlags after root", x.takeFlags(), flags);
        due("root in place", x.root(2, 2), flags);
        holds(x, 2, wantM, wantE);
    }

    private static void root() {
        promise = 9;
        roots(4, NEAREST, 9, 0, 0, 3, 0);
        roots(4, NEAREST, 0, 0, 0, 0, 0);
        roots(4, NEAREST, 1, -12, 0, 1, -6);
        roots(4, NEAREST, 1, -11, 1, 11, -9);
        roots(4, NEAREST, 2, 0, 1, 11, -3);
        roots(4, UP, 2, 0, 1, 3, -1);
        roots(4, DOWN, 3, 0, 1, 13, -3);
        roots(4, UP, 3, 0, 1, 7, -2);
        roots(4, TO_ZERO, 3, 0, 1, 13, -3);
        roots(10, NEAREST, 1, 20, 0, 1, 10);
        roots(10, DOWN, 1023, 11, 1, 723, 1);
        roots(10, UP, 1023, 11, 1, 181, 3);
        roots(10, NEAREST, 529, -12, 0, 23, -6);
        roots(4, NEAREST, -1, -12, 4, 0, 0);
        roots(4, DOWN, -15, 11, 4, 0, 0);
        for (int bad : NOT_REGISTERS) {
            RoundedFloats x = filled();
            due("root(" + bad + ", 0)", x.root(bad, 0), -1);
            due("root(0, " + bad + ")", x.root(0, bad), -1);
            due("root(" + bad + ", 1)", x.root(bad, 1), -1);
            isStillFilled(x);
        }
    }

    private static void fuses(int mode, int[] abc, int flags, int m, int e) {
        RoundedFloats x = inMode(4, mode);
        for (int r = 0; r < 3; r++) {
            due("load before fuse", x.load(r, abc[2 * r], abc[2 * r + 1]), 0);
        }
        String what = "mode=" + mode + " fuse of " + java.util.Arrays.toString(abc);
        due(what, x.fuse(3, 0 + 4 * 1 + 16 * 2), flags);
        holds(x, 3, m, e);
        due(what + ": takeFlags", x.takeFlags(), flags);
        due(what + " with a and b changed", x.fuse(3, 1 + 4 * 0 + 16 * 2), flags);
        holds(x, 3, m, e);
        due(what + " in place", x.fuse(2, 0 + 4 * 1 + 16 * 2), flags);
        holds(x, 2, m, e);
    }

    private static void fuse() {
        promise = 10;
        fuses(NEAREST, new int[] {3, 0, 5, 0, -7, 0}, 0, 1, 3);
        fuses(NEAREST, new int[] {15, 0, 15, 0, -7, 5}, 0, 1, 0);
        fuses(NEAREST, new int[] {1, -12, 1, -12, 1, -12}, 1, 1, -12);
        fuses(UP, new int[] {1, -12, 1, -12, 1, 11}, 1, 9, 8);
        fuses(DOWN, new int[] {-1, -12, 1, -12, 1, 11}, 1, 15, 7);
        fuses(NEAREST, new int[] {1, -12, 1, -12, 15, 11}, 3, 15, 11);
        fuses(NEAREST, new int[] {1, -12, -1, -12, -15, 11}, 3, -15, 11);
        fuses(DOWN, new int[] {-15, 11, 15, 11, 15, 11}, 3, -15, 11);
        fuses(UP, new int[] {-15, 11, -15, 11, -15, 11}, 3, 15, 11);
        fuses(NEAREST, new int[] {15, 11, 1, 1, -15, 11}, 0, 15, 11);
        fuses(NEAREST, new int[] {15, 11, 1, 1, -7, 12}, 3, 15, 11);
        fuses(NEAREST, new int[] {0, 0, 15, 11, -7, -12}, 0, -7, -12);
        fuses(NEAREST, new int[] {1, -12, 1, -1, 0, 0}, 1, 0, 0);
        fuses(NEAREST, new int[] {1, -12, 1, -1, 1, -12}, 1, 1, -11);
        fuseReadsItsCode();
        int[] codes = {-1, 64, 65, Integer.MIN_VALUE, Integer.MAX_VALUE};
        for (int code : codes) {
            RoundedFloats x = filled();
            due("fuse(0, " + code + ")", x.fuse(0, code), -1);
            isStillFilled(x);
        }
        for (int bad : NOT_REGISTERS) {
            RoundedFloats x = filled();
            due("fuse(" + bad + ", 0)", x.fuse(bad, 0), -1);
            isStillFilled(x);
        }
    }

    private static void fuseReadsItsCode() {
        int[] held = {2, 3, 5, 7};
        for (int code = 0; code < 64; code++) {
            RoundedFloats x = new RoundedFloats(10);
            for (int r = 0; r < 4; r++) {
                x.load(r, held[r], 0);
            }
            int value = held[code % 4] * held[code / 4 % 4] + held[code / 16];
            int twos = Integer.numberOfTrailingZeros(value);
            due("fuse(1, " + code + ")", x.fuse(1, code), 0);
            holds(x, 1, value >> twos, twos);
        }
    }

    private static void mantissaAndExponent() {
        int[][] cases = {{1, 0, 1, 0}, {6, 0, 3, 1}, {-6, 0, -3, 1}, {512, 11, 1, 20}, {-512, 11, -1, 20},
            {1022, 11, 511, 12}, {1, -12, 1, -12}, {-1023, -12, -1023, -12}, {0, 5, 0, 0}, {1000, 3, 125, 6}};
        for (int[] one : cases) {
            RoundedFloats x = new RoundedFloats(10);
            due("load", x.load(3, one[0], one[1]), 0);
            promise = 11;
            due("mantissa of " + one[0] + " * 2^" + one[1], x.mantissa(3), one[2]);
            promise = 12;
            due("exponent of " + one[0] + " * 2^" + one[1], x.exponent(3), one[3]);
        }
        for (int bad : NOT_REGISTERS) {
            RoundedFloats x = filled();
            promise = 11;
            due("mantissa(" + bad + ")", x.mantissa(bad), 0);
            promise = 12;
            due("exponent(" + bad + ")", x.exponent(bad), 0);
            isStillFilled(x);
        }
    }

    private static void compare() {
        promise = 13;
        int[][] ascending = {{-1023, 11}, {-1, 20}, {-1, 0}, {-1, -12}, {0, 0}, {1, -12}, {1023, -12}, {1, -2}, {1, 0},
            {3, -1}, {1, 11}, {1023, 10}, {1, 20}, {1023, 11}};
        for (int i = 0; i < ascending.length; i++) {
            for (int j = 0; j < ascending.length; j++) {
                RoundedFloats x = new RoundedFloats(10);
                x.load(1, ascending[i][0], ascending[i][1]);
                x.load(2, ascending[j][0], ascending[j][1]);
                due("compare of " + i + " and " + j, x.compare(1, 2), Integer.compare(i, j));
                due("compare with itself", x.compare(1, 1), 0);
            }
        }
        for (int bad : NOT_REGISTERS) {
            for (int r = 0; r < 4; r++) {
                RoundedFloats x = filled();
                due("compare(" + bad + ", " + r + ")", x.compare(bad, r), 0);
                due("compare(" + r + ", " + bad + ")", x.compare(r, bad), 0);
                due("compare(" + bad + ", " + bad + ")", x.compare(bad, bad), 0);
                isStillFilled(x);
            }
        }
    }

    private static void steps(int m, int e, boolean up, int wantM, int wantE) {
        for (int mode = 0; mode < 4; mode++) {
            RoundedFloats x = inMode(3, mode);
            due("load before next", x.load(2, m, e), 0);
            due("next of " + m + " * 2^" + e + (up ? " up" : " down"), x.next(2, up), true);
            holds(x, 2, wantM, wantE);
            due("takeFlags after next", x.takeFlags(), 0);
        }
    }

    private static void next() {
        promise = 14;
        steps(0, 0, true, 1, -12);
        steps(0, 0, false, -1, -12);
        steps(1, -12, false, 0, 0);
        steps(-1, -12, true, 0, 0);
        steps(7, -12, true, 1, -9);
        steps(1, -9, true, 5, -11);
        steps(1, -9, false, 7, -12);
        steps(1, 0, true, 5, -2);
        steps(1, 0, false, 7, -3);
        steps(-1, 0, true, -7, -3);
        steps(-1, 0, false, -5, -2);
        steps(7, 0, true, 1, 3);
        steps(-7, 0, false, -1, 3);
        steps(3, 12, true, 7, 11);
        steps(7, 11, false, 3, 12);
        steps(-7, 11, true, -3, 12);
        for (int mode = 0; mode < 4; mode++) {
            RoundedFloats x = inMode(3, mode);
            x.load(0, 7, 11);
            x.load(1, -7, 11);
            due("next above the greatest", x.next(0, true), false);
            due("next below the least", x.next(1, false), false);
            holds(x, 0, 7, 11);
            holds(x, 1, -7, 11);
            due("takeFlags after them", x.takeFlags(), 0);
        }
        for (int bad : NOT_REGISTERS) {
            RoundedFloats x = filled();
            due("next(" + bad + ", true)", x.next(bad, true), false);
            due("next(" + bad + ", false)", x.next(bad, false), false);
            isStillFilled(x);
        }
    }

    private static void takeFlags() {
        promise = 15;
        RoundedFloats x = new RoundedFloats(3);
        due("at the beginning", x.takeFlags(), 0);
        x.load(0, 7, 0);
        due("after an exact load", x.takeFlags(), 0);
        x.load(0, 9, 0);
        x.load(1, 7, 0);
        due("after an inexact and an exact load", x.takeFlags(), 1);
        due("again", x.takeFlags(), 0);
        x.root(2, 3);
        x.div(2, 0, 3);
        due("after a division by 0", x.takeFlags(), 4);
        x.load(0, 1, 20);
        x.div(2, 0, 3);
        x.load(0, 1, 0);
        due("after all kinds", x.takeFlags(), 7);
        due("again", x.takeFlags(), 0);
        x.load(0, 1, 20);
        due("after a load beyond", x.takeFlags(), 3);
        x.load(9, 1, 20);
        x.add(0, 0, 4);
        x.fuse(0, 64);
        x.root(0, -1);
        x.setMode(9);
        x.next(0, true);
        x.next(0, false);
        x.mantissa(7);
        x.compare(0, 1);
        due("after calls that are no operations", x.takeFlags(), 0);
        RoundedFloats y = new RoundedFloats(3);
        x.load(0, 9, 0);
        due("of another object", y.takeFlags(), 0);
    }

    private static void constants() {
        promise = 0;
        due("INEXACT", RoundedFloats.INEXACT, 1);
        due("LIMIT", RoundedFloats.LIMIT, 2);
        due("INVALID", RoundedFloats.INVALID, 4);
        due("BAD", RoundedFloats.BAD, -1);
    }

    public static void main(String[] args) {
        constants();
        newObject();
        precision();
        setMode();
        load();
        add();
        sub();
        mul();
        div();
        root();
        fuse();
        mantissaAndExponent();
        compare();
        next();
        takeFlags();
        System.out.println(checked + " answers checked, " + wrong + " not as due");
        if (wrong != 0) {
            System.exit(1);
        }
    }
}
