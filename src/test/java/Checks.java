/** What the tests share: the count of wrong answers, and lines to test on. */
final class Checks {
    static final int CELLS = 8;
    static final int NO_SUCH_CELL = 65536;

    // Index 256 and 65536 + n would be valid if an index were narrowed.
    static final int[] WRONG_INDEXES = {
        -1, -2, -7, -8, 8, 9, 15, 16, 255, 256, 263, 65535, 65536, 65543,
        -65536, -65535, Integer.MIN_VALUE, Integer.MIN_VALUE + 1,
        Integer.MAX_VALUE, Integer.MAX_VALUE - 1
    };

    private static final int[] EDGE_VALUES = {-32768, -1, 0, 2, 32767};

    private static final int MOST_SHOWN = 20;

    private static int wrong = 0;

    private Checks() {
    }

    static void due(String call, int got, int want) {
        if (got != want) {
            tell(call + " answered " + got + ", due is " + want);
        }
    }

    static void dueLine(String when, Lift53 x, int... want) {
        for (int i = 0; i < CELLS; i++) {
            due(when + ": get(" + i + ")", x.get(i), want[i]);
        }
    }

    static void holds(String what, boolean isSo) {
        if (!isSo) {
            tell(what + " does not hold");
        }
    }

    private static void tell(String fault) {
        wrong++;
        if (wrong <= MOST_SHOWN) {
            System.out.println(fault);
        }
    }

    static void end() {
        System.out.println(wrong == 0 ? "all answers are as due" : wrong + " answers are not as due");
        if (wrong != 0) {
            System.exit(1);
        }
    }

    static Lift53 holding(int... cells) {
        Lift53 x = new Lift53();
        for (int i = 0; i < CELLS; i++) {
            x.set(i, cells[i]);
        }
        return x;
    }

    /** How many lines edgeLine tells: every way to put the five edge values in eight cells. */
    static int edgeLines() {
        int count = 1;
        for (int i = 0; i < CELLS; i++) {
            count *= EDGE_VALUES.length;
        }
        return count;
    }

    static int[] edgeLine(int number) {
        int[] cells = new int[CELLS];
        int rest = number;
        for (int i = 0; i < CELLS; i++) {
            cells[i] = EDGE_VALUES[rest % EDGE_VALUES.length];
            rest /= EDGE_VALUES.length;
        }
        return cells;
    }

    /** A line of values from the whole range of a short, always the same for the same number. */
    static int[] mixedLine(int number) {
        int[] cells = new int[CELLS];
        int state = number * 0x9E3779B1 + 12345;
        for (int i = 0; i < CELLS; i++) {
            state = state * 1664525 + 1013904223;
            cells[i] = wrap(state >>> 16);
        }
        return cells;
    }

    // Written without a cast to short, to be another reckoning than the program's.
    static int wrap(int value) {
        return Math.floorMod(value + 32768, 65536) - 32768;
    }
}
