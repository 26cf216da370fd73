import java.util.ArrayList;
import java.util.List;

/**
 * Uses objects for the 512 calls that the document allows: calls of every kind, with drawn
 * arguments, right and wrong, each answered by a model in the document's own words too.
 */
public final class WholeLifeTest {
    private static final int CALLS = 512;
    private static final int LIVES_PER_PRECISION = 250;
    private static final int PRINTED = 10;

    /** Operations are named more than once, so that they make up most of a life. */
    private static final String[] KINDS = {"load", "load", "load", "load", "add", "add", "sub", "sub", "mul", "mul", "div",
        "div", "root", "root", "fuse", "fuse", "fuse", "next", "next", "setMode", "precision", "takeFlags", "compare",
        "mantissa", "mantissa", "mantissa", "exponent", "exponent", "exponent"};
    private static final int[] EXTREMES = {Integer.MIN_VALUE, Integer.MAX_VALUE, -1, 4, 5, -4, 64, -64, 256, -1000001, 1000001};
    private static final int[] EDGE_EXPONENTS = {-12, -13, -14, 10, 11, 12, -20, 20, -21, 21};

    private static long seed = 20261116L;
    private static long checked = 0;
    private static int wrong = 0;

    /** A fixed sequence, so that every run of the test is the same. */
    private static int drawn(int bound) {
        seed = seed * 6364136223846793005L + 1442695040888963407L;
        return (int) ((seed >>> 33) % bound);
    }

    private static boolean seldom() {
        return drawn(40) == 0;
    }

    private static int drawnBelow(int bound) {
        return seldom() ? EXTREMES[drawn(EXTREMES.length)] : drawn(bound);
    }

    private static int drawnMantissa(int precision) {
        if (seldom()) {
            return EXTREMES[drawn(EXTREMES.length)];
        }
        int sign = drawn(2) == 0 ? 1 : -1;
        switch (drawn(4)) {
            case 0: return sign * drawn(1000001);
            case 1: return sign * ((1 << drawn(20)) + drawn(5) - 2);
            case 2: return sign * ((1 << precision) - 1);
            // Up to two bits more than a number has: midpoints among them.
            default: return sign * drawn(1 << (precision + 2));
        }
    }

    private static int drawnExponent() {
        return drawn(4) == 0 ? EDGE_EXPONENTS[drawn(EDGE_EXPONENTS.length)] : drawn(41) - 20;
    }

    private static int[] drawnArguments(String name, int precision) {
        switch (name) {
            case "precision":
            case "takeFlags": return new int[0];
            case "setMode":
            case "mantissa":
            case "exponent": return new int[] {drawnBelow(4)};
            case "root":
            case "compare": return new int[] {drawnBelow(4), drawnBelow(4)};
            case "next": return new int[] {drawnBelow(4), drawn(2)};
            case "fuse": return new int[] {drawnBelow(4), drawnBelow(64)};
            case "load": return new int[] {drawnBelow(4), drawnMantissa(precision), drawnExponent()};
            default: return new int[] {drawnBelow(4), drawnBelow(4), drawnBelow(4)};
        }
    }

    private static String told(String name, int[] given) {
        StringBuilder text = new StringBuilder(name).append('(');
        for (int i = 0; i < given.length; i++) {
            text.append(i == 0 ? "" : ", ").append(given[i]);
        }
        return text.append(')').toString();
    }

    /** Ends at the first wrong answer, as all later ones may follow from it. */
    private static void live(int precision, long[] numbers) {
        RoundedFloats x = new RoundedFloats(precision);
        Model model = new Model(precision, numbers);
        List<String> calls = new ArrayList<>();
        for (int i = 0; i < CALLS; i++) {
            String name = KINDS[drawn(KINDS.length)];
            int[] given = drawnArguments(name, precision);
            int due = model.answerOf(name, given);
            int got = Runs.answerOf(x, name, given);
            calls.add(told(name, given) + " = " + got);
            checked++;
            if (got != due) {
                wrong++;
                if (wrong <= PRINTED) {
                    System.out.println("precision " + precision + ", " + calls + ": due is " + due);
                }
                return;
            }
        }
    }

    public static void main(String[] args) {
        for (int precision = 2; precision <= 10; precision++) {
            long[] numbers = Document.numbersOf(precision);
            for (int i = 0; i < LIVES_PER_PRECISION; i++) {
                live(precision, numbers);
            }
        }
        System.out.println(checked + " answers checked, " + wrong + " lives not as due");
        if (wrong != 0) {
            System.exit(1);
        }
    }
}
