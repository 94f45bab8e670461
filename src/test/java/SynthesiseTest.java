/** Promise 4: synthesising the line, and that the transform is reversible. */
public final class SynthesiseTest {
    private static final int MIXED_LINES = 200000;

    public static void main(String[] args) {
        answersTheExamples();
        floorsNegativeSums();
        mirrorsTheEdges();
        wrapsEveryStore();
        doesNotNarrowASumBeforeTheShift();
        agreesWithTheModel();
        mayBeCalledAgainAndAgain();
        isReversible();
        Checks.end();
    }

    private static void answersTheExamples() {
        turns(new int[] {0, 0, 0, 0, 0, 0, 0, 0}, 0, 0, 0, 0, 0, 0, 0, 0);
        turns(new int[] {0, 1, 0, 0, 0, 0, 0, 0}, -1, 0, 0, 0, 0, 0, 0, 0);
        turns(new int[] {1, 0, 3, 0, 5, 0, 7, 1}, 1, 2, 3, 4, 5, 6, 7, 8);
    }

    private static void floorsNegativeSums() {
        turns(new int[] {0, 0, -3, 0, 0, 0, 0, 0}, 0, -2, -3, -2, 0, 0, 0, 0);
        // Undo update quarters -3 + 2 = -1 at cells 2 and 4.
        turns(new int[] {0, 0, 0, -3, 0, 0, 0, 0}, 0, 0, 1, -2, 1, 0, 0, 0);
    }

    private static void mirrorsTheEdges() {
        turns(new int[] {0, 100, 0, 0, 0, 0, 0, 0}, -50, 62, -25, -13, 0, 0, 0, 0);
        turns(new int[] {0, 0, 0, 0, 0, 0, 100, 0}, 0, 0, 0, 0, 0, 50, 100, 100);
        turns(new int[] {0, 0, 0, 0, 0, 0, 0, 100}, 0, 0, 0, 0, 0, -13, -25, 75);
    }

    private static void wrapsEveryStore() {
        // Undo update takes cell 0 to -32768 - 1 = -32769, which is kept as 32767.
        turns(new int[] {-32768, 1, 0, 0, 0, 0, 0, 0},
            32767, 16384, 0, 0, 0, 0, 0, 0);
        // Undo predict takes cell 7 to 32767 + 16384, which is kept as -16385.
        turns(new int[] {0, 0, 0, 0, 0, 0, 24576, 32767},
            0, 0, 0, 0, 0, 8192, 16384, -16385);
    }

    private static void doesNotNarrowASumBeforeTheShift() {
        turns(new int[] {16384, 32767, 16384, 32767, 16384, 32767, 16384, 32767},
            0, 32767, 0, 32767, 0, 32767, 0, 32767);
        turns(new int[] {32767, 0, 32767, 0, 32767, 0, 32767, 0},
            32767, 32767, 32767, 32767, 32767, 32767, 32767, 32767);
    }

    private static void agreesWithTheModel() {
        for (int n = 0; n < Checks.edgeLines(); n++) {
            int[] cells = Checks.edgeLine(n);
            turns(cells, Model.synthesised(cells));
        }
        for (int n = 0; n < MIXED_LINES; n++) {
            int[] cells = Checks.mixedLine(n);
            turns(cells, Model.synthesised(cells));
        }
    }

    private static void mayBeCalledAgainAndAgain() {
        int[] want = {5, -9, 300, 32767, -32768, 12, 0, -7};
        Lift53 x = Checks.holding(want);
        for (int n = 0; n < 1000; n++) {
            want = Model.synthesised(want);
            Checks.due("synthesise() number " + n, x.synthesise(), want[0]);
            Checks.dueLine("after synthesise() number " + n, x, want);
        }
    }

    private static void isReversible() {
        for (int n = 0; n < Checks.edgeLines(); n++) {
            comesBack(Checks.edgeLine(n));
        }
        for (int n = 0; n < MIXED_LINES; n++) {
            comesBack(Checks.mixedLine(n));
        }
    }

    private static void comesBack(int[] cells) {
        String on = " on " + java.util.Arrays.toString(cells);
        Lift53 x = Checks.holding(cells);
        x.analyse();
        Checks.due("analyse(), synthesise()" + on, x.synthesise(), cells[0]);
        Checks.dueLine("after analyse(), synthesise()" + on, x, cells);
        x.synthesise();
        Checks.due("synthesise(), analyse()" + on, x.analyse(), cells[0]);
        Checks.dueLine("after synthesise(), analyse()" + on, x, cells);
    }

    private static void turns(int[] before, int... after) {
        Lift53 x = Checks.holding(before);
        String call = "synthesise() on " + java.util.Arrays.toString(before);
        Checks.due(call, x.synthesise(), after[0]);
        Checks.dueLine("after " + call, x, after);
    }
}
