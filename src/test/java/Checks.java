import java.util.Arrays;

/** Compares answers with those that are due, and tells each fault under the sentence it breaks. */
final class Checks {
    static final int CELLS = 8;
    static final int NO_SUCH_CELL = 65536;

    private static final int MOST_SHOWN = 5;

    private static String sentence = "";
    private static int wrongInSentence = 0;
    private static int wrong = 0;

    private Checks() {
    }

    /** What follows, up to the next call, tests this sentence of the document. */
    static void sentence(String words) {
        sentence = words;
        wrongInSentence = 0;
    }

    /** Tells that the sentence needs no more tests; loops over every int would tell faults for minutes. */
    static boolean isBroken() {
        return wrongInSentence > MOST_SHOWN;
    }

    static void dueSet(Lift53 x, int i, int v, int want) {
        int got = x.set(i, v);
        if (got != want) {
            tell("set(" + i + ", " + v + ") answered " + got + ", due is " + want);
        }
    }

    static void dueGet(Lift53 x, int i, int want) {
        int got = x.get(i);
        if (got != want) {
            tell("get(" + i + ") answered " + got + ", due is " + want);
        }
    }

    static void dueAnalyse(Lift53 x, int want) {
        int got = x.analyse();
        if (got != want) {
            tell("analyse() answered " + got + ", due is " + want);
        }
    }

    static void dueSynthesise(Lift53 x, int want) {
        int got = x.synthesise();
        if (got != want) {
            tell("synthesise() answered " + got + ", due is " + want);
        }
    }

    static void dueLine(String when, Lift53 x, int... want) {
        int[] got = lineOf(x);
        if (!Arrays.equals(got, want)) {
            tell(when + " the line is " + Arrays.toString(got) + ", due is " + Arrays.toString(want));
        }
    }

    /** Analysing the line before, on a new object, gives the line after and answers its first cell. */
    static void analyses(int[] before, int... after) {
        Lift53 x = holding(before);
        int answer = x.analyse();
        if (answer != after[0] || !Arrays.equals(lineOf(x), after)) {
            tellTransform("analyse()", before, answer, lineOf(x), after);
        }
    }

    /** As analyses, for synthesise. */
    static void synthesises(int[] before, int... after) {
        Lift53 x = holding(before);
        int answer = x.synthesise();
        if (answer != after[0] || !Arrays.equals(lineOf(x), after)) {
            tellTransform("synthesise()", before, answer, lineOf(x), after);
        }
    }

    static void holds(String what, boolean isSo) {
        if (!isSo) {
            tell(what + " does not hold");
        }
    }

    static void doesNotThrow(String call, Runnable doIt) {
        try {
            doIt.run();
        } catch (Throwable thrown) {
            tell(call + " threw " + thrown);
        }
    }

    static void end() {
        System.out.println(wrong == 0 ? "all answers are as due" : wrong + " answers are not as due");
        if (wrong != 0) {
            System.exit(1);
        }
    }

    static Lift53 holding(int... cells) {
        Lift53 x = new Lift53();
        for (int i = 0; i < CELLS; i++) {
            x.set(i, cells[i]);
        }
        return x;
    }

    static int[] lineOf(Lift53 x) {
        int[] cells = new int[CELLS];
        for (int i = 0; i < CELLS; i++) {
            cells[i] = x.get(i);
        }
        return cells;
    }

    private static void tellTransform(String call, int[] before, int answer, int[] got, int[] want) {
        tell(call + " on " + Arrays.toString(before) + " answered " + answer + " and gave "
            + Arrays.toString(got) + ", due is " + Arrays.toString(want));
    }

    private static void tell(String fault) {
        if (wrongInSentence == 0) {
            System.out.println("broken: " + sentence);
        }
        wrong++;
        wrongInSentence++;
        if (wrongInSentence <= MOST_SHOWN) {
            System.out.println("  " + fault);
        }
    }
}
