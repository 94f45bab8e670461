import java.util.function.Consumer;

/** Numbers and lines to test on; the same ones in every run. */
final class Lines {
    // 256 and 65536 would be valid if an index were narrowed to a byte or a short.
    static final int[] WRONG_INDEXES = {
        -1, -2, -7, -8, -9, 8, 9, 15, 16, 255, 256, 263, 65535, 65536, 65543,
        -256, -65536, -65535, 1 << 30, Integer.MIN_VALUE, Integer.MIN_VALUE + 1,
        Integer.MAX_VALUE, Integer.MAX_VALUE - 1
    };

    static final int[] VALUES = {
        0, 1, -1, 127, 128, 255, 256, 32766, 32767, 32768, 32769, -32767, -32768, -32769,
        40000, 65535, 65536, 65537, -65535, -65536, -65537, 98304, 1 << 30,
        Integer.MAX_VALUE, Integer.MIN_VALUE
    };

    private static final int[] EDGE_VALUES = {-32768, -1, 0, 2, 32767};

    private static final int MIXED_LINES = 200000;

    private Lines() {
    }

    /** Every way to put the five edge values in eight cells, then lines of values from the whole range. */
    static void each(Consumer<int[]> test) {
        eachOf(EDGE_VALUES, test);
        for (int n = 0; n < MIXED_LINES; n++) {
            test.accept(mixed(n));
        }
    }

    /** Every way to put these values in eight cells. */
    static void eachOf(int[] values, Consumer<int[]> test) {
        int count = 1;
        for (int i = 0; i < Checks.CELLS; i++) {
            count *= values.length;
        }
        for (int n = 0; n < count; n++) {
            test.accept(digits(n, values));
        }
    }

    static int[] mixed(int number) {
        int[] cells = new int[Checks.CELLS];
        int state = number * 0x9E3779B1 + 12345;
        for (int i = 0; i < Checks.CELLS; i++) {
            state = state * 1664525 + 1013904223;
            cells[i] = Model.wrap(state >>> 16);
        }
        return cells;
    }

    /** A line with one value in the even cells and another one in the odd cells. */
    static int[] striped(int even, int odd) {
        return new int[] {even, odd, even, odd, even, odd, even, odd};
    }

    private static int[] digits(int number, int[] values) {
        int[] cells = new int[Checks.CELLS];
        int rest = number;
        for (int i = 0; i < Checks.CELLS; i++) {
            cells[i] = values[rest % values.length];
            rest /= values.length;
        }
        return cells;
    }
}
