import java.util.ArrayList;
import java.util.List;

/** The boundary cases that the document's promises name, sentence by sentence. */
public final class PromiseBoundaryTest {
    private static void newObject() {
        Runs.sentence("1: All registers 0");
        for (int p = 2; p <= 10; p++) {
            for (int r = 0; r < 4; r++) {
                Runs.run(p, "number(" + r + ") = 0");
                Runs.run(p, "next(" + r + ", true) = true", "number(" + r + ") = 1 * 2^-12");
            }
        }

        Runs.sentence("1: mode 0");
        for (int p = 2; p <= 10; p++) {
            int even = 1 << p;
            Runs.run(p, "load(0, " + (even + 1) + ", 0) = 1", "number(0) = 1 * 2^" + p,
                "load(0, " + -(even + 1) + ", 0) = 1", "number(0) = -1 * 2^" + p,
                "load(0, " + (2 * even - 1) + ", 0) = 1", "number(0) = 1 * 2^" + (p + 1),
                "load(0, " + (1 - 2 * even) + ", 0) = 1", "number(0) = -1 * 2^" + (p + 1));
        }

        Runs.sentence("1: precision clamped to 2, where it is less");
        int[] less = {1, 0, -1, -2, -10, -30, Integer.MIN_VALUE, Integer.MIN_VALUE + 5};
        for (int p : less) {
            Runs.run(p, "precision() = 2", "load(0, 3, 11) = 0", "number(0) = 3 * 2^11", "load(0, 7, 10) = 3",
                "load(0, 5, 0) = 1", "number(0) = 1 * 2^2", "load(0, 3, 0) = 0", "number(0) = 3 * 2^0");
        }

        Runs.sentence("1: precision clamped to 10, where it is greater");
        int[] greater = {11, 12, 16, 37, 64 + 4, 256 + 4, Integer.MAX_VALUE, Integer.MAX_VALUE - 2};
        for (int p : greater) {
            Runs.run(p, "precision() = 10", "load(0, 1023, 11) = 0", "number(0) = 1023 * 2^11", "load(0, 2047, 10) = 3",
                "load(0, 1025, 0) = 1", "number(0) = 1 * 2^10", "load(0, 1023, 0) = 0", "number(0) = 1023 * 2^0");
        }

        Runs.sentence("1: precision as given, where it is 2 .. 10");
        for (int p = 2; p <= 10; p++) {
            int top = (1 << p) - 1;
            Runs.run(p, "precision() = " + p, "load(0, " + top + ", 0) = 0", "number(0) = " + top + " * 2^0",
                "load(0, " + (top + 2) + ", 0) = 1", "load(0, " + top + ", 11) = 0", "load(0, " + (top + 1) + ", 11) = 3");
        }

        Runs.sentence("2: The precision, whatever was called before");
        Runs.run(7, "precision() = 7", "setMode(3) = true", "setMode(4) = false", "load(0, 1000000, 20) = 3",
            "precision() = 7", "div(1, 0, 1) = 4", "next(0, true) = false", "takeFlags() = 7", "precision() = 7");
    }

    private static void setMode() {
        Runs.sentence("3: Sets the mode and answers true: each of 0 .. 3, until the next is set");
        Runs.run(3,
            "setMode(3) = true", "load(0, 19, -1) = 1", "number(0) = 1 * 2^3", "load(0, -19, -1) = 1", "number(0) = -1 * 2^3",
            "setMode(0) = true", "load(0, 19, -1) = 1", "number(0) = 5 * 2^1", "load(0, -19, -1) = 1", "number(0) = -5 * 2^1",
            "setMode(2) = true", "load(0, 19, -1) = 1", "number(0) = 5 * 2^1", "load(0, -19, -1) = 1", "number(0) = -1 * 2^3",
            "setMode(1) = true", "load(0, 19, -1) = 1", "number(0) = 1 * 2^3", "load(0, -19, -1) = 1", "number(0) = -5 * 2^1",
            "setMode(1) = true", "load(0, 19, -1) = 1", "number(0) = 1 * 2^3", "load(0, -19, -1) = 1", "number(0) = -5 * 2^1");

        Runs.sentence("3: Setting the mode leaves registers and flags as they are");
        for (int mode = 0; mode < 4; mode++) {
            Runs.run(3, "load(0, 19, -1) = 1", "load(1, -3, 0) = 0", "setMode(" + mode + ") = true",
                "number(0) = 5 * 2^1", "number(1) = -3 * 2^0", "number(2) = 0", "takeFlags() = 1");
        }

        Runs.sentence("3: false, changing nothing, when it is not 0 .. 3");
        int[] modes = {-1, 4, 5, 7, 8, -4, 256, 65536, Integer.MIN_VALUE, Integer.MIN_VALUE + 2, Integer.MAX_VALUE};
        for (int mode : modes) {
            Runs.refused("setMode(" + mode + ") = false");
        }
    }

    private static void load() {
        Runs.sentence("4: r, m and e at the ends of their ranges are taken");
        for (int r = 0; r < 4; r++) {
            Runs.run(10, "load(" + r + ", 1000000, 20) = 3", "number(" + r + ") = 1023 * 2^11",
                "load(" + r + ", -1000000, 20) = 3", "number(" + r + ") = -1023 * 2^11",
                "load(" + r + ", 1000000, -20) = 1", "number(" + r + ") = 977 * 2^-10",
                "load(" + r + ", -1000000, -20) = 1", "number(" + r + ") = -977 * 2^-10",
                "load(" + r + ", 1, 20) = 0", "number(" + r + ") = 1 * 2^20",
                "load(" + r + ", 1, -20) = 1", "number(" + r + ") = 0",
                "load(" + r + ", 0, 20) = 0", "number(" + r + ") = 0", "load(" + r + ", 0, -20) = 0", "number(" + r + ") = 0");
        }

        Runs.sentence("4: BAD, changing nothing, when r is not 0 .. 3");
        for (int r : Runs.NOT_REGISTERS) {
            Runs.refused("load(" + r + ", 5, 0) = -1");
            Runs.refused("load(" + r + ", 1000000, 20) = -1");
            Runs.refused("load(" + r + ", 1, -20) = -1");
        }

        Runs.sentence("4: BAD, changing nothing, when m is not -1000000 .. 1000000");
        int[] mantissas = {1000001, -1000001, 1 << 20, 1 << 24, Integer.MIN_VALUE, Integer.MIN_VALUE + 1, Integer.MAX_VALUE};
        for (int m : mantissas) {
            Runs.refused("load(0, " + m + ", 0) = -1");
            Runs.refused("load(1, " + m + ", -20) = -1");
            Runs.refused("load(3, " + m + ", 20) = -1");
        }

        Runs.sentence("4: BAD, changing nothing, when e is not -20 .. 20");
        int[] exponents = {21, -21, 32, -32, 44, -52, 64, -64, 256, Integer.MIN_VALUE, Integer.MAX_VALUE};
        for (int e : exponents) {
            Runs.refused("load(0, 1, " + e + ") = -1");
            Runs.refused("load(1, 0, " + e + ") = -1");
            Runs.refused("load(3, -1000000, " + e + ") = -1");
        }
    }

    private static void refusedAtEachPlace(String name) {
        for (int bad : Runs.NOT_REGISTERS) {
            Runs.refused(name + "(" + bad + ", 1, 2) = -1");
            Runs.refused(name + "(0, " + bad + ", 2) = -1");
            Runs.refused(name + "(0, 1, " + bad + ") = -1");
            Runs.refused(name + "(" + bad + ", " + bad + ", " + bad + ") = -1");
        }
    }

    private static void addAndSub() {
        Runs.sentence("5: BAD, changing nothing, when one of them is not 0 .. 3");
        refusedAtEachPlace("add");

        Runs.sentence("5: the sum's register may be that of an operand");
        Runs.run(4, "load(0, 3, 0) = 0", "load(1, 5, 0) = 0", "add(0, 0, 1) = 0", "number(0) = 1 * 2^3",
            "add(1, 0, 1) = 0", "number(1) = 13 * 2^0", "number(0) = 1 * 2^3", "add(1, 1, 1) = 0", "number(1) = 13 * 2^1");

        Runs.sentence("6: BAD, changing nothing, when one of them is not 0 .. 3");
        refusedAtEachPlace("sub");

        Runs.sentence("6: the difference's register may be that of an operand");
        Runs.run(4, "load(0, 3, 0) = 0", "load(3, 5, 0) = 0", "sub(0, 0, 3) = 0", "number(0) = -1 * 2^1",
            "sub(3, 0, 3) = 0", "number(3) = -7 * 2^0", "number(0) = -1 * 2^1", "sub(3, 3, 3) = 0", "number(3) = 0");

        Runs.sentence("5 and 6: an operand as great and one as small as can be");
        Runs.runInMode(3, 10, "load(0, 1023, 11) = 0", "load(1, 1, -12) = 0",
            "sub(2, 0, 1) = 1", "number(2) = 511 * 2^12", "sub(2, 1, 0) = 1", "number(2) = -511 * 2^12",
            "add(2, 0, 1) = 3", "number(2) = 1023 * 2^11", "sub(2, 0, 0) = 0", "number(2) = 0",
            "sub(2, 1, 1) = 0", "number(2) = 0", "add(2, 1, 1) = 0", "number(2) = 1 * 2^-11");
    }

    private static void mulAndDiv() {
        Runs.sentence("7: BAD, changing nothing, when one of them is not 0 .. 3");
        refusedAtEachPlace("mul");

        Runs.sentence("7: the product's register may be that of an operand");
        Runs.run(4, "load(0, 3, 0) = 0", "load(1, -5, 0) = 0", "mul(0, 0, 1) = 0", "number(0) = -15 * 2^0",
            "load(0, -1, 1) = 0", "mul(1, 0, 1) = 0", "number(1) = 5 * 2^1", "mul(0, 0, 0) = 0", "number(0) = 1 * 2^2");

        Runs.sentence("8: BAD, changing nothing, when one of them is not 0 .. 3, even if the divisor is 0");
        refusedAtEachPlace("div");

        Runs.sentence("8: INVALID when b is 0");
        int[] dividends = {1, -1, 15, -15, 0};
        for (int m : dividends) {
            Runs.runInEveryMode(4, "load(0, " + m + ", 11) = 0", "load(2, 7, 0) = 0", "load(3, 5, 0) = 0",
                "div(2, 0, 1) = 4", "number(2) = 0", "number(1) = 0", "number(3) = 5 * 2^0", "takeFlags() = 4",
                "div(1, 0, 1) = 4", "number(1) = 0", "div(0, 0, 1) = 4", "number(0) = 0", "takeFlags() = 4");
        }

        Runs.sentence("8: no INVALID when b is next to 0");
        Runs.runInEveryMode(4, "load(0, 1, -12) = 0", "load(1, -1, -12) = 0", "div(2, 0, 1) = 0", "number(2) = -1 * 2^0",
            "div(2, 1, 1) = 0", "number(2) = 1 * 2^0", "div(2, 3, 1) = 0", "number(2) = 0", "takeFlags() = 0",
            "load(2, 1, 0) = 0", "div(3, 2, 0) = 0", "number(3) = 1 * 2^12", "takeFlags() = 0");

        Runs.sentence("8: the quotient's register may be that of an operand");
        Runs.run(4, "load(0, 15, 0) = 0", "load(1, 3, 0) = 0", "div(0, 0, 1) = 0", "number(0) = 5 * 2^0",
            "load(0, 9, 0) = 0", "div(1, 0, 1) = 0", "number(1) = 3 * 2^0", "div(1, 1, 1) = 0", "number(1) = 1 * 2^0");
    }

    private static void root() {
        Runs.sentence("9: BAD, changing nothing, when one of them is not 0 .. 3, even if a is below 0");
        for (int bad : Runs.NOT_REGISTERS) {
            for (int r = 0; r < 4; r++) {
                Runs.refused("root(" + bad + ", " + r + ") = -1");
                Runs.refused("root(" + r + ", " + bad + ") = -1");
            }
            Runs.refused("root(" + bad + ", " + bad + ") = -1");
        }

        Runs.sentence("9: INVALID when a is below 0");
        int[][] below = {{-1, -12}, {-1, 0}, {-1, 2}, {-9, 0}, {-1, 14}, {-15, 11}};
        for (int[] a : below) {
            Runs.runInEveryMode(4, "load(0, " + a[0] + ", " + a[1] + ") = 0", "load(1, 5, 0) = 0", "root(1, 0) = 4",
                "number(1) = 0", "number(0) = " + a[0] + " * 2^" + a[1], "takeFlags() = 4", "root(0, 0) = 4", "number(0) = 0");
        }

        Runs.sentence("9: no INVALID when a is 0");
        Runs.runInEveryMode(4, "load(1, 5, 0) = 0", "root(1, 0) = 0", "number(1) = 0", "takeFlags() = 0");

        Runs.sentence("9: the roots of the least number above 0 and of the greatest number");
        Runs.runInEveryMode(10, "load(0, 1, -12) = 0", "root(1, 0) = 0", "number(1) = 1 * 2^-6",
            "load(0, 1023, 11) = 0", "root(1, 0) = 1", "load(0, 1, 20) = 0", "root(1, 0) = 0", "number(1) = 1 * 2^10");
        Runs.runInMode(1, 10, "load(0, 1023, 11) = 0", "root(0, 0) = 1", "number(0) = 723 * 2^1");
        Runs.runInMode(2, 10, "load(0, 1023, 11) = 0", "root(0, 0) = 1", "number(0) = 181 * 2^3");
    }

    private static void fuse() {
        Runs.sentence("10: BAD, changing nothing, when r is not 0 .. 3");
        for (int bad : Runs.NOT_REGISTERS) {
            Runs.refused("fuse(" + bad + ", 0) = -1");
            Runs.refused("fuse(" + bad + ", 36) = -1");
            Runs.refused("fuse(" + bad + ", 63) = -1");
        }

        Runs.sentence("10: BAD, changing nothing, also when abc is not 0 .. 63");
        int[] codes = {-1, 64, 65, 67, 100, 127, 128, 256, -64, -63, 65536, Integer.MIN_VALUE, Integer.MIN_VALUE + 36,
            Integer.MAX_VALUE};
        for (int code : codes) {
            for (int r = 0; r < 4; r++) {
                Runs.refused("fuse(" + r + ", " + code + ") = -1");
            }
        }

        Runs.sentence("10: abc 0 and 63 are taken");
        Runs.run(6, "load(0, 3, 0) = 0", "load(3, -5, 0) = 0", "fuse(1, 0) = 0", "number(1) = 3 * 2^2",
            "fuse(1, 63) = 0", "number(1) = 5 * 2^2", "fuse(3, 63) = 0", "number(3) = 5 * 2^2", "fuse(0, 0) = 0",
            "number(0) = 3 * 2^2");

        Runs.sentence("10: abc is a + 4 * b + 16 * c");
        Runs.run(10, "load(0, 2, 0) = 0", "load(1, 3, 0) = 0", "load(2, 5, 0) = 0",
            "fuse(3, 36) = 0", "number(3) = 11 * 2^0", "fuse(3, 24) = 0", "number(3) = 13 * 2^0",
            "fuse(3, 9) = 0", "number(3) = 17 * 2^0", "fuse(3, 6) = 0", "number(3) = 17 * 2^0",
            "fuse(3, 1) = 0", "number(3) = 1 * 2^3", "fuse(3, 4) = 0", "number(3) = 1 * 2^3",
            "fuse(3, 16) = 0", "number(3) = 7 * 2^0", "fuse(3, 32) = 0", "number(3) = 9 * 2^0",
            "load(3, 7, 0) = 0", "fuse(3, 3) = 0", "number(3) = 1 * 2^4");
        unroundedProduct();
    }

    private static void unroundedProduct() {
        Runs.sentence("10: the product is not rounded before: too large");
        for (int p = 2; p <= 10; p++) {
            int top = (1 << p) - 1;
            Runs.runInEveryMode(p, "load(0, " + top + ", 11) = 0", "load(1, 1, 1) = 0", "load(2, " + -top + ", 11) = 0",
                "fuse(3, 36) = 0", "number(3) = " + top + " * 2^11", "load(1, -1, 1) = 0", "load(2, " + top + ", 11) = 0",
                "fuse(3, 36) = 0", "number(3) = " + -top + " * 2^11", "takeFlags() = 0");
        }

        Runs.sentence("10: the product is not rounded before: too small");
        Runs.runInMode(0, 4, "load(0, 3, -7) = 0", "load(1, 3, -7) = 0", "load(2, -1, -12) = 0",
            "mul(3, 0, 1) = 1", "number(3) = 1 * 2^-11", "fuse(3, 36) = 1", "number(3) = 1 * 2^-12");
        Runs.runInMode(2, 4, "load(0, 1, -12) = 0", "load(1, 1, 0) = 0", "fuse(3, 16) = 1", "number(3) = 9 * 2^-3",
            "load(1, -1, 0) = 0", "fuse(3, 16) = 1", "number(3) = -15 * 2^-4");
        Runs.runInMode(1, 4, "load(0, 1, -12) = 0", "load(1, 1, 0) = 0", "fuse(3, 16) = 1", "number(3) = 1 * 2^0",
            "load(1, -1, 0) = 0", "fuse(3, 16) = 1", "number(3) = -1 * 2^0");

        Runs.sentence("10: the product is not rounded before: between two numbers");
        Runs.runInEveryMode(4, "load(0, 15, 0) = 0", "load(1, 15, 0) = 0", "load(2, -7, 5) = 0", "fuse(3, 36) = 0",
            "number(3) = 1 * 2^0", "mul(3, 0, 1) = 1");
        Runs.runInEveryMode(10, "load(0, 1023, 0) = 0", "load(1, 1023, 0) = 0", "load(2, -511, 11) = 0", "fuse(3, 36) = 0",
            "number(3) = 1 * 2^0", "mul(3, 0, 1) = 1");
    }

    private static void mantissaAndExponent() {
        Runs.sentence("11: 0 when r is not 0 .. 3");
        for (int bad : Runs.NOT_REGISTERS) {
            Runs.refused("mantissa(" + bad + ") = 0");
        }

        Runs.sentence("11: the mantissa of 0, and of the numbers at the ends");
        Runs.runInEveryMode(10, "mantissa(0) = 0", "load(0, 512, 11) = 0", "mantissa(0) = 1", "load(0, -512, 11) = 0",
            "mantissa(0) = -1", "load(3, 1023, 11) = 0", "mantissa(3) = 1023", "load(3, -1023, -12) = 0", "mantissa(3) = -1023",
            "load(3, 1, -12) = 0", "mantissa(3) = 1", "load(3, -6, 0) = 0", "mantissa(3) = -3", "sub(3, 3, 3) = 0",
            "mantissa(3) = 0");

        Runs.sentence("12: 0 when r is not 0 .. 3");
        for (int bad : Runs.NOT_REGISTERS) {
            Runs.refused("exponent(" + bad + ") = 0");
        }

        Runs.sentence("12: the exponent of 0, and of the numbers at the ends");
        Runs.runInEveryMode(10, "exponent(0) = 0", "load(0, 512, 11) = 0", "exponent(0) = 20", "load(0, -512, 11) = 0",
            "exponent(0) = 20", "load(3, 1023, 11) = 0", "exponent(3) = 11", "load(3, -1023, -12) = 0", "exponent(3) = -12",
            "load(3, 1, -12) = 0", "exponent(3) = -12", "load(3, -6, 0) = 0", "exponent(3) = 1", "load(3, 1, 0) = 0",
            "exponent(3) = 0", "load(3, 3, -12) = 0", "sub(3, 3, 3) = 0", "exponent(3) = 0");
    }

    private static void compare() {
        Runs.sentence("13: 0 when one of them is not 0 .. 3");
        for (int bad : Runs.NOT_REGISTERS) {
            for (int r = 0; r < 4; r++) {
                Runs.refused("compare(" + bad + ", " + r + ") = 0");
                Runs.refused("compare(" + r + ", " + bad + ") = 0");
            }
            Runs.refused("compare(" + bad + ", " + bad + ") = 0");
        }

        Runs.sentence("13: with 0");
        Runs.run(4, "compare(0, 1) = 0", "compare(0, 0) = 0", "load(1, 1, -12) = 0", "compare(0, 1) = -1", "compare(1, 0) = 1",
            "load(1, -1, -12) = 0", "compare(0, 1) = 1", "compare(1, 0) = -1", "load(1, 15, 11) = 0", "compare(0, 1) = -1",
            "compare(1, 0) = 1", "load(1, -15, 11) = 0", "compare(0, 1) = 1", "compare(1, 0) = -1");

        Runs.sentence("13: the numbers at the ends, and neighbours");
        Runs.run(10, "load(0, 1023, 11) = 0", "load(1, -1023, 11) = 0", "compare(0, 1) = 1", "compare(1, 0) = -1",
            "load(2, 511, 12) = 0", "compare(0, 2) = 1", "compare(2, 0) = -1", "load(3, -511, 12) = 0", "compare(1, 3) = -1",
            "compare(3, 1) = 1", "load(2, 1023, 11) = 0", "compare(0, 2) = 0", "compare(2, 0) = 0",
            "load(2, 1, -12) = 0", "load(3, -1, -12) = 0", "compare(2, 3) = 1", "compare(3, 2) = -1", "takeFlags() = 0");
    }

    private static void next() {
        Runs.sentence("14: False, changing nothing, when there is none");
        for (int p = 2; p <= 10; p++) {
            int top = (1 << p) - 1;
            Runs.runInEveryMode(p, "load(0, " + top + ", 11) = 0", "load(1, " + -top + ", 11) = 0", "load(2, 1, -20) = 1",
                "load(2, 3, 0) = 0", "next(0, true) = false", "number(0) = " + top + " * 2^11", "next(1, false) = false",
                "number(1) = " + -top + " * 2^11", "number(2) = 3 * 2^0", "number(3) = 0", "takeFlags() = 1",
                "next(0, true) = false", "next(1, false) = false", "takeFlags() = 0");
        }

        Runs.sentence("14: True, where there is one, next to the ends");
        for (int p = 2; p <= 10; p++) {
            int top = (1 << p) - 1;
            int half = top / 2;
            Runs.runInEveryMode(p, "load(0, " + top + ", 11) = 0", "next(0, false) = true", "number(0) = " + half + " * 2^12",
                "next(0, true) = true", "number(0) = " + top + " * 2^11", "next(0, true) = false",
                "load(1, " + -top + ", 11) = 0", "next(1, true) = true", "number(1) = " + -half + " * 2^12",
                "next(1, false) = true", "number(1) = " + -top + " * 2^11", "next(1, false) = false", "takeFlags() = 0");
        }

        Runs.sentence("14: False, changing nothing, when r is not 0 .. 3");
        for (int bad : Runs.NOT_REGISTERS) {
            Runs.refused("next(" + bad + ", true) = false");
            Runs.refused("next(" + bad + ", false) = false");
        }

        Runs.sentence("14: next to 0");
        Runs.runInEveryMode(4, "next(0, true) = true", "number(0) = 1 * 2^-12", "next(0, false) = true", "number(0) = 0",
            "next(0, false) = true", "number(0) = -1 * 2^-12", "next(0, true) = true", "number(0) = 0", "takeFlags() = 0");

        Runs.sentence("14: where the gaps change");
        for (int p = 2; p <= 10; p++) {
            int top = (1 << p) - 1;
            int second = (1 << (p - 1)) + 1;
            Runs.runInEveryMode(p, "load(0, " + top + ", 0) = 0", "next(0, true) = true", "number(0) = 1 * 2^" + p,
                "next(0, true) = true", "number(0) = " + second + " * 2^1", "next(0, false) = true", "next(0, false) = true",
                "number(0) = " + top + " * 2^0", "load(0, " + -top + ", 0) = 0", "next(0, false) = true",
                "number(0) = -1 * 2^" + p, "next(0, false) = true", "number(0) = " + -second + " * 2^1",
                "next(0, true) = true", "next(0, true) = true", "number(0) = " + -top + " * 2^0");
        }
        walk();
    }

    /** From the least number to the greatest and back: each number of precision 2 or 3 once. */
    private static void walk() {
        Runs.sentence("14: as many numbers lie between the ends as the terms say");
        for (int p = 2; p <= 3; p++) {
            int top = (1 << p) - 1;
            int above = top + 23 * (1 << (p - 1));
            List<String> calls = new ArrayList<>();
            calls.add("load(0, " + -top + ", 11) = 0");
            addSteps(calls, "next(0, true)", above);
            calls.add("number(0) = 0");
            addSteps(calls, "next(0, true)", above);
            calls.add("number(0) = " + top + " * 2^11");
            calls.add("next(0, true) = false");
            addSteps(calls, "next(0, false)", 2 * above);
            calls.add("number(0) = " + -top + " * 2^11");
            calls.add("next(0, false) = false");
            Runs.run(p, calls.toArray(new String[0]));
        }
    }

    private static void addSteps(List<String> calls, String call, int count) {
        for (int i = 0; i < count; i++) {
            calls.add(call + " = true");
        }
    }

    private static void takeFlags() {
        Runs.sentence("15: The union of the flags since the beginning");
        for (int p = 2; p <= 10; p++) {
            Runs.run(p, "takeFlags() = 0");
            Runs.run(p, "load(0, 1, 0) = 0", "takeFlags() = 0");
            Runs.run(p, "load(0, 1, -20) = 1", "load(0, 1, 0) = 0", "takeFlags() = 1");
            Runs.run(p, "load(0, 1000000, 20) = 3", "load(0, 1, -20) = 1", "takeFlags() = 3");
            Runs.run(p, "div(0, 0, 0) = 4", "add(0, 0, 0) = 0", "takeFlags() = 4");
            Runs.run(p, "div(0, 0, 0) = 4", "load(0, 1, -20) = 1", "takeFlags() = 5");
            Runs.run(p, "load(0, -1000000, 20) = 3", "root(1, 0) = 4", "takeFlags() = 7");
        }

        Runs.sentence("15: The union of the flags since the last call of takeFlags");
        Runs.run(4, "load(0, 1000000, 20) = 3", "div(1, 0, 1) = 4", "takeFlags() = 7", "takeFlags() = 0",
            "load(0, 1, -20) = 1", "takeFlags() = 1", "takeFlags() = 0", "div(1, 0, 1) = 4", "takeFlags() = 4",
            "load(0, 1, 0) = 0", "takeFlags() = 0", "load(0, 1000000, 20) = 3", "takeFlags() = 3", "takeFlags() = 0");

        Runs.sentence("15: Each operation adds its flags");
        Runs.run(3, "load(0, 7, 11) = 0", "load(1, 1, -12) = 0", "load(3, -3, 0) = 0", "takeFlags() = 0",
            "add(2, 0, 1) = 3", "takeFlags() = 3", "sub(2, 0, 1) = 1", "takeFlags() = 1", "mul(2, 1, 1) = 1", "takeFlags() = 1",
            "mul(2, 0, 0) = 3", "takeFlags() = 3", "div(2, 0, 1) = 3", "takeFlags() = 3", "div(2, 1, 0) = 1", "takeFlags() = 1",
            "root(2, 3) = 4", "takeFlags() = 4", "div(3, 0, 2) = 4", "takeFlags() = 4", "root(2, 0) = 1", "takeFlags() = 1",
            "fuse(2, 0) = 3", "takeFlags() = 3", "fuse(2, 5) = 3", "takeFlags() = 3", "fuse(2, 21) = 1", "takeFlags() = 1");

        Runs.sentence("15: Calls that are no operations, and refused ones, add and take nothing");
        int[] untaken = {-20, 20};
        for (int e : untaken) {
            String flags = "takeFlags() = " + (e < 0 ? 1 : 3);
            Runs.run(3, "load(0, 1000000, " + e + ") = " + (e < 0 ? 1 : 3), "setMode(2) = true", "setMode(4) = false",
                "precision() = 3", "mantissa(4) = 0", "exponent(4) = 0", "compare(0, 1) = 1", "next(1, true) = true",
                "load(4, 1, -20) = -1", "add(0, 0, 4) = -1", "root(-1, 0) = -1", "div(4, 0, 2) = -1", "fuse(0, 64) = -1", flags,
                "next(1, true) = true", "load(0, 1, 21) = -1", "div(0, -1, 2) = -1", "takeFlags() = 0");
        }
    }

    private static void lifetime() {
        Runs.sentence("An object is used for at most 512 calls: the last of them is answered as the first");
        List<String> calls = new ArrayList<>();
        while (calls.size() < 500) {
            calls.add("load(0, 7, 0) = 0");
            calls.add("load(1, 3, 0) = 0");
            calls.add("div(2, 0, 1) = 1");
            calls.add("mantissa(2) = 9");
            calls.add("exponent(2) = -2");
        }
        calls.add("next(2, true) = true");
        calls.add("mantissa(2) = 5");
        calls.add("exponent(2) = -1");
        calls.add("root(3, 2) = 1");
        calls.add("fuse(3, 36) = 1");
        calls.add("compare(3, 2) = 1");
        calls.add("setMode(4) = false");
        calls.add("add(3, 0, 4) = -1");
        calls.add("div(3, 0, 4) = -1");
        calls.add("precision() = 4");
        calls.add("takeFlags() = 1");
        calls.add("takeFlags() = 0");
        Runs.run(4, calls.toArray(new String[0]));
    }

    public static void main(String[] args) {
        newObject();
        setMode();
        load();
        addAndSub();
        mulAndDiv();
        root();
        fuse();
        mantissaAndExponent();
        compare();
        next();
        takeFlags();
        lifetime();
        Runs.end();
    }
}
