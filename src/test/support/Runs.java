import java.util.ArrayList;
import java.util.List;
import java.util.regex.Matcher;
import java.util.regex.Pattern;

/**
 * Runs of calls on new objects, told as text: "add(2, 0, 1) = 3" is a call with the answer that is
 * due, and "number(2) = 7 * 2^11" asks for the mantissa and the exponent at once.
 */
final class Runs {
    static final int[] NOT_REGISTERS = {-1, 4, 5, 7, 8, -4, 64, 256, 65536, Integer.MIN_VALUE, Integer.MIN_VALUE + 3,
        Integer.MAX_VALUE};

    private static final Pattern CALL = Pattern.compile("(\\w+)\\(([^)]*)\\) = (.+)");
    private static final Pattern NUMBER = Pattern.compile("(-?\\d+) \\* 2\\^(-?\\d+)");

    /** One broken refusal shows in thousands of states; the first few tell enough. */
    private static final int PRINTED_PER_SENTENCE = 20;

    private static String sentence = "";
    private static int checkedBefore = 0;
    private static int wrongBefore = 0;
    private static int sentences = 0;
    private static int checked = 0;
    private static int wrong = 0;

    private Runs() { }

    /** Names the sentence of the document that the runs after it are for. */
    static void sentence(String words) {
        endSentence();
        sentence = words;
        sentences++;
        checkedBefore = checked;
        wrongBefore = wrong;
    }

    private static void endSentence() {
        if (sentences > 0 && checked == checkedBefore) {
            wrong++;
            System.out.println(sentence + ": nothing was checked");
        }
    }

    static void end() {
        endSentence();
        System.out.println(sentences + " sentences, " + checked + " answers checked, " + wrong + " not as due");
        if (wrong != 0) {
            System.exit(1);
        }
    }

    static void run(int precision, String... calls) {
        go(new RoundedFloats(precision), precision, calls);
    }

    static void runInMode(int mode, int precision, String... calls) {
        RoundedFloats x = new RoundedFloats(precision);
        due("setMode(" + mode + ")", x.setMode(mode) ? 1 : 0, 1);
        go(x, precision, calls);
    }

    static void runInEveryMode(int precision, String... calls) {
        for (int mode = 0; mode < 4; mode++) {
            runInMode(mode, precision, calls);
        }
    }

    private static void go(RoundedFloats x, int precision, String... calls) {
        List<String> told = new ArrayList<>();
        for (String call : calls) {
            told.add(call);
            make(x, call, "precision " + precision + ", " + told);
        }
    }

    private static void make(RoundedFloats x, String call, String where) {
        Matcher parts = CALL.matcher(call);
        if (!parts.matches()) {
            throw new IllegalArgumentException(call);
        }
        int[] given = wholeNumbers(parts.group(2));
        if (!parts.group(1).equals("number")) {
            due(where, answerOf(x, parts.group(1), given), wholeNumber(parts.group(3)));
            return;
        }
        Matcher number = NUMBER.matcher(parts.group(3));
        boolean isZero = !number.matches();
        due(where + ", mantissa", x.mantissa(given[0]), isZero ? wholeNumber(parts.group(3)) : wholeNumber(number.group(1)));
        due(where + ", exponent", x.exponent(given[0]), isZero ? 0 : wholeNumber(number.group(2)));
    }

    private static int[] wholeNumbers(String list) {
        if (list.isEmpty()) {
            return new int[0];
        }
        String[] texts = list.split(", ");
        int[] found = new int[texts.length];
        for (int i = 0; i < texts.length; i++) {
            found[i] = wholeNumber(texts[i]);
        }
        return found;
    }

    private static int wholeNumber(String text) {
        if (text.equals("true")) {
            return 1;
        }
        return text.equals("false") ? 0 : Integer.parseInt(text);
    }

    static int answerOf(RoundedFloats x, String name, int[] given) {
        switch (name) {
            case "precision": return x.precision();
            case "setMode": return x.setMode(given[0]) ? 1 : 0;
            case "load": return x.load(given[0], given[1], given[2]);
            case "add": return x.add(given[0], given[1], given[2]);
            case "sub": return x.sub(given[0], given[1], given[2]);
            case "mul": return x.mul(given[0], given[1], given[2]);
            case "div": return x.div(given[0], given[1], given[2]);
            case "root": return x.root(given[0], given[1]);
            case "fuse": return x.fuse(given[0], given[1]);
            case "mantissa": return x.mantissa(given[0]);
            case "exponent": return x.exponent(given[0]);
            case "compare": return x.compare(given[0], given[1]);
            case "next": return x.next(given[0], given[1] == 1) ? 1 : 0;
            case "takeFlags": return x.takeFlags();
            default: throw new IllegalArgumentException(name);
        }
    }

    private static void due(String what, int got, int want) {
        checked++;
        if (got != want) {
            wrong++;
            if (wrong - wrongBefore <= PRINTED_PER_SENTENCE) {
                System.out.println(sentence + ": " + what + " answered " + got + ", due is " + want);
            }
        }
    }

    /**
     * Makes the call, which is to be refused, on objects in many states, and looks whether each
     * can still not be told from a twin on which the call was not made.
     */
    static void refused(String call) {
        int[] precisions = {2, 5, 10};
        int[] untaken = {0, 1, 3, 4, 5, 7};
        for (int precision : precisions) {
            for (int mode = 0; mode < 4; mode++) {
                for (int flags : untaken) {
                    for (int filling = 0; filling < 3; filling++) {
                        refusedBy(call, precision, mode, flags, filling);
                    }
                }
            }
        }
    }

    private static void refusedBy(String call, int precision, int mode, int flags, int filling) {
        String where = "precision " + precision + ", mode " + mode + ", flags " + flags + ", filling " + filling;
        RoundedFloats x = inState(precision, mode, flags, filling);
        make(x, call, where + ", " + call);
        RoundedFloats twin = inState(precision, mode, flags, filling);
        due(where + ", flags after " + call, x.takeFlags(), flags);
        due(where + ", flags of the twin", twin.takeFlags(), flags);
        alike(where + ", after " + call, x, twin);
        // Values three quarters of the way outward are rounded to another pair by each mode.
        int m = (1 << (precision + 2)) + 6;
        for (RoundedFloats one : new RoundedFloats[] {x, twin}) {
            one.load(0, m, 0);
            one.load(1, -m, 0);
        }
        alike(where + ", rounding after " + call, x, twin);
        boolean outward = mode == 0 || mode == 2;
        due(where + ", mode after " + call, x.exponent(0), outward ? 3 : precision + 2);
        outward = mode == 0 || mode == 1;
        due(where + ", mode after " + call, x.exponent(1), outward ? 3 : precision + 2);
    }

    private static void alike(String where, RoundedFloats x, RoundedFloats twin) {
        due(where + ", precision", x.precision(), twin.precision());
        for (int r = 0; r < 4; r++) {
            due(where + ", mantissa of register " + r, x.mantissa(r), twin.mantissa(r));
            due(where + ", exponent of register " + r, x.exponent(r), twin.exponent(r));
        }
    }

    private static RoundedFloats inState(int precision, int mode, int flags, int filling) {
        RoundedFloats x = new RoundedFloats(precision);
        if ((flags & 1) != 0) {
            x.load(0, 1000000, (flags & 2) != 0 ? 20 : -20);
        }
        if ((flags & 4) != 0) {
            x.div(0, 1, 1);
        }
        fill(x, filling);
        x.setMode(mode);
        return x;
    }

    private static void fill(RoundedFloats x, int filling) {
        int top = (1 << x.precision()) - 1;
        int[][] numbers = {
            {0, 0, 0, 0, 0, 0, 0, 0},
            {3, 0, -1, -2, 3, -12, 1, 9},
            {top, 11, -top, 11, 1, -12, -1, -12}};
        for (int r = 0; r < 4; r++) {
            x.load(r, numbers[filling][2 * r], numbers[filling][2 * r + 1]);
        }
    }
}
