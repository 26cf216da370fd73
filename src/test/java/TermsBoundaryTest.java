/** The boundary cases that the document's "Terms" name, sentence by sentence. */
public final class TermsBoundaryTest {
    private static final int DOWN = 1;
    private static final int UP = 2;
    private static final int TO_ZERO = 3;
    private static final int NEAREST = 0;

    private static void numbers() {
        Runs.sentence("A number is 0 or m * 2^e with |m| < 2^p and -12 <= e <= 11");
        for (int p = 2; p <= 10; p++) {
            int top = (1 << p) - 1;
            int beyond = 1 << p;
            Runs.runInEveryMode(p,
                "load(0, 0, -20) = 0", "number(0) = 0",
                "load(0, " + top + ", 11) = 0", "number(0) = " + top + " * 2^11",
                "load(0, " + -top + ", 11) = 0", "number(0) = " + -top + " * 2^11",
                "load(0, " + beyond + ", 11) = 3", "load(0, " + -beyond + ", 11) = 3",
                "load(0, 1, " + (p + 10) + ") = 0", "number(0) = 1 * 2^" + (p + 10),
                "load(0, 2, " + (p + 10) + ") = 3",
                "load(0, 1, -12) = 0", "number(0) = 1 * 2^-12",
                "load(0, -1, -12) = 0", "number(0) = -1 * 2^-12",
                "load(0, 1, -13) = 1", "load(0, -1, -13) = 1", "load(0, 3, -13) = 1",
                "load(0, " + top + ", -12) = 0", "number(0) = " + top + " * 2^-12",
                "load(0, " + beyond + ", -12) = 0", "number(0) = 1 * 2^" + (p - 12),
                "load(0, " + (beyond + 1) + ", -12) = 1", "load(0, " + (beyond + 2) + ", -12) = 0",
                "load(0, " + (beyond + 1) + ", 0) = 1", "load(0, " + -(beyond + 1) + ", 0) = 1");
        }
    }

    private static void zero() {
        Runs.sentence("There is only one 0");
        Runs.runInMode(UP, 5,
            "load(1, -1, -20) = 1", "number(1) = 0", "compare(0, 1) = 0", "compare(1, 0) = 0",
            "load(2, 3, 0) = 0", "div(3, 2, 1) = 4", "root(3, 1) = 0", "number(3) = 0",
            "next(1, true) = true", "number(1) = 1 * 2^-12");
        Runs.runInEveryMode(5,
            "load(0, -3, 0) = 0", "mul(2, 0, 1) = 0", "number(2) = 0", "compare(2, 1) = 0",
            "div(2, 1, 0) = 0", "number(2) = 0", "compare(1, 2) = 0",
            "sub(2, 0, 0) = 0", "number(2) = 0", "compare(1, 2) = 0",
            "load(3, -1, -12) = 0", "next(3, true) = true", "number(3) = 0", "compare(1, 3) = 0",
            "add(2, 2, 3) = 0", "number(2) = 0", "next(2, false) = true", "number(2) = -1 * 2^-12");

        Runs.sentence("0 has mantissa 0 and exponent 0");
        Runs.runInEveryMode(5, "load(0, 0, 20) = 0", "mantissa(0) = 0", "exponent(0) = 0",
            "load(0, 0, -20) = 0", "mantissa(0) = 0", "exponent(0) = 0");

        Runs.sentence("The registers 0 .. 3 are all 0 at first");
        for (int p = 2; p <= 10; p++) {
            Runs.run(p, "number(0) = 0", "number(1) = 0", "number(2) = 0", "number(3) = 0");
        }
    }

    private static void numbersStay() {
        Runs.sentence("When v is a number, the result is v");
        Runs.runInEveryMode(3,
            "load(0, 7, 10) = 0", "add(1, 0, 0) = 0", "number(1) = 7 * 2^11",
            "sub(2, 3, 1) = 0", "number(2) = -7 * 2^11", "add(0, 1, 2) = 0", "number(0) = 0",
            "load(0, 1, -12) = 0", "sub(1, 3, 0) = 0", "number(1) = -1 * 2^-12",
            "add(2, 0, 1) = 0", "number(2) = 0",
            "load(0, 1, -6) = 0", "mul(1, 0, 0) = 0", "number(1) = 1 * 2^-12",
            "root(2, 1) = 0", "number(2) = 1 * 2^-6", "div(2, 1, 0) = 0", "number(2) = 1 * 2^-6",
            "fuse(2, 16) = 0", "number(2) = 1 * 2^-11", "takeFlags() = 0");
        Runs.runInEveryMode(10,
            "load(0, 1023, 0) = 0", "load(1, 1, 11) = 0", "mul(2, 0, 1) = 0", "number(2) = 1023 * 2^11",
            "div(3, 2, 0) = 0", "number(3) = 1 * 2^11", "load(1, -1, 11) = 0",
            "mul(2, 0, 1) = 0", "number(2) = -1023 * 2^11", "div(3, 2, 1) = 0", "number(3) = 1023 * 2^0",
            "load(0, 1, 20) = 0", "root(3, 0) = 0", "number(3) = 1 * 2^10",
            "mul(3, 3, 3) = 0", "number(3) = 1 * 2^20", "takeFlags() = 0");
    }

    private static void beyond() {
        Runs.sentence("When v is greater than the greatest number, the result is that number: by as little as can be");
        Runs.runInEveryMode(3, "load(0, 917505, -6) = 3", "number(0) = 7 * 2^11",
            "load(1, 1, -12) = 0", "add(2, 0, 1) = 3", "number(2) = 7 * 2^11",
            "load(1, -1, -12) = 0", "sub(2, 0, 1) = 3", "number(2) = 7 * 2^11",
            "load(2, 5, 5) = 0", "load(3, 3, 5) = 0", "mul(2, 2, 3) = 3", "number(2) = 7 * 2^11",
            "load(2, 1, 13) = 0", "load(3, 1, -1) = 0", "div(2, 2, 3) = 3", "number(2) = 7 * 2^11",
            "fuse(2, 5) = 3", "number(2) = 7 * 2^11");
        Runs.runInEveryMode(10, "load(0, 523777, 2) = 3", "number(0) = 1023 * 2^11",
            "load(1, 1, -12) = 0", "add(2, 0, 1) = 3", "number(2) = 1023 * 2^11",
            "fuse(2, 5) = 3", "number(2) = 1023 * 2^11",
            "load(2, 1023, -10) = 0", "div(3, 0, 2) = 3", "number(3) = 1023 * 2^11");

        Runs.sentence("When v is greater than the greatest number, the result is that number: by far");
        for (int p = 2; p <= 10; p++) {
            String greatest = ((1 << p) - 1) + " * 2^11";
            Runs.runInEveryMode(p, "load(0, 1000000, 20) = 3", "number(0) = " + greatest,
                "add(1, 0, 0) = 3", "number(1) = " + greatest,
                "mul(1, 0, 0) = 3", "number(1) = " + greatest,
                "fuse(1, 0) = 3", "number(1) = " + greatest,
                "load(2, -1000000, 20) = 3", "sub(1, 0, 2) = 3", "number(1) = " + greatest,
                "mul(1, 2, 2) = 3", "number(1) = " + greatest,
                "fuse(1, 42) = 3", "number(1) = " + greatest,
                "load(2, 1, -12) = 0", "div(1, 0, 2) = 3", "number(1) = " + greatest,
                "load(2, 1, " + (p + 10) + ") = 0", "mul(1, 2, 2) = 3", "number(1) = " + greatest);
        }
        belowTheLeast();
    }

    private static void belowTheLeast() {
        Runs.sentence("When v is less than the least number, the result is that number: by as little as can be");
        Runs.runInEveryMode(3, "load(0, -917505, -6) = 3", "number(0) = -7 * 2^11",
            "load(1, -1, -12) = 0", "add(2, 0, 1) = 3", "number(2) = -7 * 2^11",
            "load(1, 1, -12) = 0", "sub(2, 0, 1) = 3", "number(2) = -7 * 2^11",
            "load(2, -5, 5) = 0", "load(3, 3, 5) = 0", "mul(2, 2, 3) = 3", "number(2) = -7 * 2^11",
            "load(2, 1, 13) = 0", "load(3, -1, -1) = 0", "div(2, 2, 3) = 3", "number(2) = -7 * 2^11",
            "load(2, -1, -12) = 0", "fuse(2, 9) = 3", "number(2) = -7 * 2^11");
        Runs.runInEveryMode(10, "load(0, -523777, 2) = 3", "number(0) = -1023 * 2^11",
            "load(1, -1, -12) = 0", "add(2, 0, 1) = 3", "number(2) = -1023 * 2^11",
            "load(2, 1, -12) = 0", "fuse(3, 9) = 3", "number(3) = -1023 * 2^11",
            "load(2, 1023, -10) = 0", "div(3, 0, 2) = 3", "number(3) = -1023 * 2^11");

        Runs.sentence("When v is less than the least number, the result is that number: by far");
        for (int p = 2; p <= 10; p++) {
            String least = (1 - (1 << p)) + " * 2^11";
            Runs.runInEveryMode(p, "load(0, -1000000, 20) = 3", "number(0) = " + least,
                "add(1, 0, 0) = 3", "number(1) = " + least,
                "load(2, 1000000, 20) = 3", "mul(1, 0, 2) = 3", "number(1) = " + least,
                "mul(1, 2, 0) = 3", "number(1) = " + least,
                "sub(1, 0, 2) = 3", "number(1) = " + least,
                "fuse(1, 8) = 3", "number(1) = " + least,
                "fuse(1, 40) = 3", "number(1) = " + least,
                "load(2, 1, -12) = 0", "div(1, 0, 2) = 3", "number(1) = " + least,
                "load(2, 1, " + (p + 10) + ") = 0", "load(3, -1, " + (p + 10) + ") = 0",
                "mul(1, 2, 3) = 3", "number(1) = " + least);
        }
    }

    private static void directions() {
        Runs.sentence("DOWN gives a, the greatest number below v");
        Runs.runInMode(DOWN, 3, "load(0, 17, -1) = 1", "number(0) = 1 * 2^3", "load(0, 31, -2) = 1", "number(0) = 7 * 2^0",
            "load(0, -17, -1) = 1", "number(0) = -5 * 2^1", "load(0, -31, -2) = 1", "number(0) = -1 * 2^3",
            "load(0, 851969, -6) = 1", "number(0) = 3 * 2^12", "load(0, -917503, -6) = 1", "number(0) = -7 * 2^11");

        Runs.sentence("UP gives b, the least number above v");
        Runs.runInMode(UP, 3, "load(0, 17, -1) = 1", "number(0) = 5 * 2^1", "load(0, 31, -2) = 1", "number(0) = 1 * 2^3",
            "load(0, -17, -1) = 1", "number(0) = -1 * 2^3", "load(0, -31, -2) = 1", "number(0) = -7 * 2^0",
            "load(0, 786433, -6) = 1", "number(0) = 7 * 2^11", "load(0, -917503, -6) = 1", "number(0) = -3 * 2^12");

        Runs.sentence("TO ZERO gives that of a and b that lies nearer to 0");
        Runs.runInMode(TO_ZERO, 3, "load(0, 19, -1) = 1", "number(0) = 1 * 2^3", "load(0, 31, -2) = 1", "number(0) = 7 * 2^0",
            "load(0, -19, -1) = 1", "number(0) = -1 * 2^3", "load(0, -31, -2) = 1", "number(0) = -7 * 2^0",
            "load(0, 917503, -6) = 1", "number(0) = 3 * 2^12", "load(0, -917503, -6) = 1", "number(0) = -3 * 2^12");

        Runs.sentence("TO ZERO gives 0 itself, if it is one of a and b");
        Runs.runInMode(TO_ZERO, 3, "load(0, 255, -20) = 1", "number(0) = 0", "load(0, -255, -20) = 1", "number(0) = 0",
            "load(0, 1, -20) = 1", "number(0) = 0", "load(0, -1, -20) = 1", "number(0) = 0",
            "load(0, 257, -20) = 1", "number(0) = 1 * 2^-12", "load(0, -257, -20) = 1", "number(0) = -1 * 2^-12");
    }

    private static void nextToZero() {
        Runs.sentence("A result next to 0: DOWN");
        Runs.runInMode(DOWN, 4, "load(0, 1, -20) = 1", "number(0) = 0", "load(0, 255, -20) = 1", "number(0) = 0",
            "load(0, -1, -20) = 1", "number(0) = -1 * 2^-12", "load(0, -255, -20) = 1", "number(0) = -1 * 2^-12");
        Runs.runInMode(DOWN, 4, "load(0, 1, -12) = 0", "load(1, -1, -12) = 0", "load(2, 15, 11) = 0",
            "mul(3, 0, 0) = 1", "number(3) = 0", "mul(3, 0, 1) = 1", "number(3) = -1 * 2^-12",
            "div(3, 0, 2) = 1", "number(3) = 0", "div(3, 1, 2) = 1", "number(3) = -1 * 2^-12");
        Runs.runInMode(DOWN, 4, "load(0, 1, -12) = 0", "load(1, -1, -12) = 0",
            "fuse(3, 32) = 1", "number(3) = 0", "fuse(3, 36) = 1", "number(3) = -1 * 2^-12");

        Runs.sentence("A result next to 0: UP");
        Runs.runInMode(UP, 4, "load(0, 1, -20) = 1", "number(0) = 1 * 2^-12", "load(0, 255, -20) = 1", "number(0) = 1 * 2^-12",
            "load(0, -1, -20) = 1", "number(0) = 0", "load(0, -255, -20) = 1", "number(0) = 0");
        Runs.runInMode(UP, 4, "load(0, 1, -12) = 0", "load(1, -1, -12) = 0", "load(2, 15, 11) = 0",
            "mul(3, 0, 0) = 1", "number(3) = 1 * 2^-12", "mul(3, 0, 1) = 1", "number(3) = 0",
            "div(3, 0, 2) = 1", "number(3) = 1 * 2^-12", "div(3, 1, 2) = 1", "number(3) = 0");
        Runs.runInMode(UP, 4, "load(0, 1, -12) = 0", "load(1, -1, -12) = 0",
            "fuse(3, 32) = 1", "number(3) = 1 * 2^-12", "fuse(3, 36) = 1", "number(3) = 0");

        Runs.sentence("A result next to 0: TO ZERO");
        Runs.runInMode(TO_ZERO, 4, "load(0, 1, -12) = 0", "load(1, -1, -12) = 0", "load(2, 15, -4) = 0",
            "mul(3, 0, 2) = 1", "number(3) = 0", "mul(3, 1, 2) = 1", "number(3) = 0",
            "load(2, 9, -3) = 0", "div(3, 0, 2) = 1", "number(3) = 0", "div(3, 1, 2) = 1", "number(3) = 0");

        Runs.sentence("A result next to 0: NEAREST");
        Runs.runInMode(NEAREST, 4, "load(0, 127, -20) = 1", "number(0) = 0", "load(0, 129, -20) = 1", "number(0) = 1 * 2^-12",
            "load(0, -127, -20) = 1", "number(0) = 0", "load(0, -129, -20) = 1", "number(0) = -1 * 2^-12",
            "load(0, 1, -12) = 0", "load(1, 7, -4) = 0", "mul(3, 0, 1) = 1", "number(3) = 0",
            "load(1, 9, -4) = 0", "mul(3, 0, 1) = 1", "number(3) = 1 * 2^-12",
            "load(1, 9, -2) = 0", "div(3, 0, 1) = 1", "number(3) = 0",
            "load(1, 15, -3) = 0", "div(3, 0, 1) = 1", "number(3) = 1 * 2^-12");
    }

    private static void nearest() {
        Runs.sentence("NEAREST gives the nearer one");
        int[] sign = {1, -1};
        for (int s : sign) {
            Runs.runInMode(NEAREST, 3,
                "load(0, " + s * 589823 + ", -16) = 1", "number(0) = " + s + " * 2^3",
                "load(0, " + s * 589825 + ", -16) = 1", "number(0) = " + s * 5 + " * 2^1",
                "load(0, " + s * 491519 + ", -16) = 1", "number(0) = " + s * 7 + " * 2^0",
                "load(0, " + s * 491521 + ", -16) = 1", "number(0) = " + s + " * 2^3",
                "load(0, " + s * 383 + ", -20) = 1", "number(0) = " + s + " * 2^-12",
                "load(0, " + s * 385 + ", -20) = 1", "number(0) = " + s + " * 2^-11",
                "load(0, " + s * 851967 + ", -6) = 1", "number(0) = " + s * 3 + " * 2^12",
                "load(0, " + s * 851969 + ", -6) = 1", "number(0) = " + s * 7 + " * 2^11",
                "load(0, " + s * 3 + ", 0) = 0", "load(1, 3, 0) = 0", "load(2, 1, -12) = 0",
                "fuse(3, 36) = 1", "number(3) = " + (s > 0 ? "5 * 2^1" : "-1 * 2^3"),
                "load(2, -1, -12) = 0",
                "fuse(3, 36) = 1", "number(3) = " + (s > 0 ? "1 * 2^3" : "-5 * 2^1"));
        }
        closeCalls();
        ties();
    }

    /** The roots and quotients of precision 10 that lie closest to a midpoint or to a number. */
    private static void closeCalls() {
        Runs.sentence("NEAREST gives the nearer one: a root or a quotient hardly off the middle");
        Runs.runInMode(NEAREST, 10, "load(0, 1023, -10) = 0", "root(1, 0) = 1", "number(1) = 1023 * 2^-10",
            "load(0, 851, -10) = 0", "root(1, 0) = 1", "number(1) = 467 * 2^-9",
            "load(0, 1, -11) = 0", "root(1, 0) = 1", "number(1) = 91 * 2^-12",
            "load(0, 512, 0) = 0", "load(1, 1023, 0) = 0", "div(2, 0, 1) = 1", "number(2) = 513 * 2^-10",
            "load(0, -917, 0) = 0", "load(1, 1019, 0) = 0", "div(2, 0, 1) = 1", "number(2) = -921 * 2^-10");

        Runs.sentence("DOWN gives a: a root or a quotient hardly off a number");
        Runs.runInMode(DOWN, 10, "load(0, 511, -11) = 0", "root(1, 0) = 1", "number(1) = 511 * 2^-10",
            "load(0, 347, -11) = 0", "root(1, 0) = 1", "number(1) = 843 * 2^-11",
            "load(0, 1022, 0) = 0", "load(1, 1023, 0) = 0", "div(2, 0, 1) = 1", "number(2) = 511 * 2^-9",
            "load(0, -681, 0) = 0", "load(1, 1021, 0) = 0", "div(2, 0, 1) = 1", "number(2) = -171 * 2^-8");

        Runs.sentence("UP gives b: a root or a quotient hardly off a number");
        Runs.runInMode(UP, 10, "load(0, 511, -11) = 0", "root(1, 0) = 1", "number(1) = 1023 * 2^-11",
            "load(0, 347, -11) = 0", "root(1, 0) = 1", "number(1) = 211 * 2^-9",
            "load(0, -1022, 0) = 0", "load(1, 1023, 0) = 0", "div(2, 0, 1) = 1", "number(2) = -511 * 2^-9",
            "load(0, 681, 0) = 0", "load(1, 1021, 0) = 0", "div(2, 0, 1) = 1", "number(2) = 171 * 2^-8");
    }

    private static void ties() {
        Runs.sentence("NEAREST, when both are equally near, gives the even multiple of b - a");
        int[] sign = {1, -1};
        for (int s : sign) {
            Runs.runInMode(NEAREST, 3,
                "load(0, " + s * 9 + ", 0) = 1", "number(0) = " + s + " * 2^3",
                "load(0, " + s * 11 + ", 0) = 1", "number(0) = " + s * 3 + " * 2^2",
                "load(0, " + s * 13 + ", 0) = 1", "number(0) = " + s * 3 + " * 2^2",
                "load(0, " + s * 15 + ", 0) = 1", "number(0) = " + s + " * 2^4",
                "load(0, " + s * 13 + ", 10) = 1", "number(0) = " + s * 3 + " * 2^12",
                "load(0, " + s + ", 3) = 0", "load(1, " + s + ", 0) = 0", "add(2, 0, 1) = 1", "number(2) = " + s + " * 2^3",
                "load(1, " + s + ", -1) = 0", "sub(2, 0, 1) = 1", "number(2) = " + s + " * 2^3",
                "load(0, " + s * 5 + ", 1) = 0", "load(1, " + s + ", 0) = 0",
                "add(2, 0, 1) = 1", "number(2) = " + s * 3 + " * 2^2",
                "sub(2, 0, 1) = 1", "number(2) = " + s + " * 2^3",
                "load(0, " + s * 3 + ", 0) = 0", "load(1, 3, 0) = 0", "mul(2, 0, 1) = 1", "number(2) = " + s + " * 2^3",
                "load(1, 5, 0) = 0", "mul(2, 0, 1) = 1", "number(2) = " + s + " * 2^4",
                "load(3, " + s + ", 2) = 0", "load(0, " + s * 5 + ", 0) = 0", "load(1, 1, 0) = 0",
                "fuse(2, 52) = 1", "number(2) = " + s + " * 2^3");
        }

        // Away from 0 no quotient lies midway between two numbers, and no root does anywhere.
        Runs.sentence("NEAREST, when both are equally near, gives the even multiple of b - a: next to 0");
        for (int s : sign) {
            Runs.runInMode(NEAREST, 3,
                "load(0, " + s + ", -13) = 1", "number(0) = 0",
                "load(0, " + s * 3 + ", -13) = 1", "number(0) = " + s + " * 2^-11",
                "load(0, " + s * 5 + ", -13) = 1", "number(0) = " + s + " * 2^-11",
                "load(0, " + s * 7 + ", -13) = 1", "number(0) = " + s + " * 2^-10",
                "load(1, 1, 1) = 0", "load(2, 1, -1) = 0",
                "load(0, " + s + ", -12) = 0", "div(3, 0, 1) = 1", "number(3) = 0", "mul(3, 0, 2) = 1", "number(3) = 0",
                "load(0, " + s * 3 + ", -12) = 0", "div(3, 0, 1) = 1", "number(3) = " + s + " * 2^-11",
                "mul(3, 0, 2) = 1", "number(3) = " + s + " * 2^-11",
                "load(0, " + s * 5 + ", -12) = 0", "div(3, 0, 1) = 1", "number(3) = " + s + " * 2^-11",
                "load(0, " + s * 7 + ", -12) = 0", "div(3, 0, 1) = 1", "number(3) = " + s + " * 2^-10");
        }
    }

    private static void flags() {
        Runs.sentence("INEXACT, when the result is not the exact value, by however little");
        Runs.runInEveryMode(4, "load(0, 1, -12) = 0", "load(1, 1, 0) = 0", "fuse(2, 16) = 1", "mul(2, 0, 0) = 1",
            "load(1, 15, 11) = 0", "div(2, 0, 1) = 1", "load(1, 1, 1) = 0", "root(2, 1) = 1",
            "load(1, 1, 0) = 0", "add(2, 0, 1) = 1", "sub(2, 0, 1) = 1", "load(2, 1, -20) = 1");

        Runs.sentence("No INEXACT, when the result is the exact value");
        Runs.runInEveryMode(4, "load(0, 1, -12) = 0", "load(1, 1, 0) = 0", "fuse(2, 4) = 0", "mul(2, 0, 1) = 0",
            "div(2, 0, 0) = 0", "root(2, 0) = 0", "add(2, 0, 0) = 0", "sub(2, 1, 1) = 0", "takeFlags() = 0");

        Runs.sentence("LIMIT, when the exact value is beyond the greatest or the least number");
        Runs.runInEveryMode(2, "load(0, 3, 11) = 0", "load(1, 1, -12) = 0", "fuse(2, 5) = 3", "add(2, 0, 1) = 3",
            "load(0, -3, 11) = 0", "sub(2, 0, 1) = 3", "takeFlags() = 3");

        Runs.sentence("No LIMIT, when the exact value is the greatest or the least number, or is rounded to it from within");
        Runs.runInEveryMode(2, "load(0, 3, 11) = 0", "load(1, -3, 11) = 0", "add(2, 0, 3) = 0", "add(2, 1, 3) = 0");
        Runs.runInMode(UP, 2, "load(0, 3, 11) = 0", "load(1, 1, -12) = 0", "sub(2, 0, 1) = 1", "number(2) = 3 * 2^11",
            "load(2, -1, -12) = 0", "fuse(3, 9) = 1", "number(3) = 3 * 2^11");
        Runs.runInMode(NEAREST, 2, "load(0, 3, 11) = 0", "load(1, 1, -12) = 0", "sub(2, 0, 1) = 1", "number(2) = 3 * 2^11",
            "load(0, -3, 11) = 0", "fuse(2, 5) = 1", "number(2) = -3 * 2^11");
        Runs.runInMode(DOWN, 2, "load(0, -3, 11) = 0", "load(1, 1, -12) = 0", "fuse(2, 5) = 1", "number(2) = -3 * 2^11");

        Runs.sentence("INVALID, when there is no exact value: the result is 0 and that is the only flag");
        Runs.runInEveryMode(2, "load(0, 3, 11) = 0", "load(1, -3, 11) = 0", "load(3, 1, 0) = 0",
            "div(3, 0, 2) = 4", "number(3) = 0", "load(3, 1, 0) = 0", "div(3, 1, 2) = 4", "number(3) = 0",
            "load(3, 1, 0) = 0", "div(3, 2, 2) = 4", "number(3) = 0",
            "load(3, 1, 0) = 0", "root(3, 1) = 4", "number(3) = 0", "takeFlags() = 4");
    }

    public static void main(String[] args) {
        numbers();
        zero();
        numbersStay();
        beyond();
        directions();
        nextToZero();
        nearest();
        flags();
        Runs.end();
    }
}
