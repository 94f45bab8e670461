/** Promise 2: setting a cell. */
public final class SetTest {
    private static final int[] VALUES = {
        0, 1, -1, 127, 128, 255, 256, 32767, 32768, 32769, -32767, -32768, -32769,
        40000, 65535, 65536, 65537, -65535, -65536, -65537, 98304, 1 << 30,
        Integer.MAX_VALUE, Integer.MIN_VALUE
    };

    public static void main(String[] args) {
        answersTheExamples();
        storesTheNarrowedValueInThatCellAlone();
        everyShortIsKept();
        wrongIndexChangesNothing();
        Checks.end();
    }

    private static void answersTheExamples() {
        for (int i = 0; i < Checks.CELLS; i++) {
            answersTheExample(i, 32767, 32767);
            answersTheExample(i, 32768, -32768);
            answersTheExample(i, 40000, -25536);
            answersTheExample(i, 65536, 0);
            answersTheExample(i, -32769, 32767);
            answersTheExample(i, Integer.MAX_VALUE, -1);
            answersTheExample(i, Integer.MIN_VALUE, 0);
        }
    }

    private static void answersTheExample(int i, int v, int want) {
        // The old value is none of the wanted ones, so answering it would show.
        Lift53 x = Checks.holding(77, 77, 77, 77, 77, 77, 77, 77);
        Checks.due("set(" + i + ", " + v + ")", x.set(i, v), want);
        Checks.due("get(" + i + ") after set to " + v, x.get(i), want);
    }

    private static void storesTheNarrowedValueInThatCellAlone() {
        for (int i = 0; i < Checks.CELLS; i++) {
            for (int v : VALUES) {
                int[] want = {101, -202, 303, -404, 505, -606, 707, -808};
                Lift53 x = Checks.holding(want);
                want[i] = Checks.wrap(v);
                Checks.due("set(" + i + ", " + v + ")", x.set(i, v), want[i]);
                Checks.dueLine("after set(" + i + ", " + v + ")", x, want);
            }
        }
    }

    private static void everyShortIsKept() {
        Lift53 x = new Lift53();
        for (int v = -32768; v <= 32767; v++) {
            Checks.due("set(5, " + v + ")", x.set(5, v), v);
            Checks.due("get(5)", x.get(5), v);
        }
    }

    private static void wrongIndexChangesNothing() {
        int[] cells = {101, -202, 303, -404, 505, -606, 707, -808};
        Lift53 x = Checks.holding(cells);
        for (int i : Checks.WRONG_INDEXES) {
            for (int v : VALUES) {
                Checks.due("set(" + i + ", " + v + ")", x.set(i, v), Checks.NO_SUCH_CELL);
                Checks.dueLine("after set(" + i + ", " + v + ")", x, cells);
            }
        }
    }
}
