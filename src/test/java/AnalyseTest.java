/** Promise 3: analysing the line. */
public final class AnalyseTest {
    private static final int MIXED_LINES = 200000;

    public static void main(String[] args) {
        answersTheExamples();
        floorsNegativeSums();
        mirrorsTheEdges();
        wrapsEveryStore();
        doesNotNarrowASumBeforeTheShift();
        agreesWithTheModel();
        mayBeCalledAgainAndAgain();
        Checks.end();
    }

    private static void answersTheExamples() {
        turns(new int[] {0, 0, 0, 0, 0, 0, 0, 0}, 0, 0, 0, 0, 0, 0, 0, 0);
        turns(new int[] {-1, 0, 0, 0, 0, 0, 0, 0}, 0, 1, 0, 0, 0, 0, 0, 0);
        turns(new int[] {1, 2, 3, 4, 5, 6, 7, 8}, 1, 0, 3, 0, 5, 0, 7, 1);
    }

    private static void floorsNegativeSums() {
        // Predict halves -3; update quarters 2 - 3 = -1 at cell 2.
        turns(new int[] {0, 0, -3, 0, 0, 0, 0, 0}, 1, 2, -2, 2, 1, 0, 0, 0);
        turns(new int[] {0, 0, 0, -3, 0, 0, 0, 0}, 0, 0, -1, -3, -1, 0, 0, 0);
    }

    private static void mirrorsTheEdges() {
        turns(new int[] {0, 100, 0, 0, 0, 0, 0, 0}, 50, 100, 25, 0, 0, 0, 0, 0);
        turns(new int[] {0, 0, 0, 0, 0, 0, 100, 0}, 0, 0, 0, 0, -12, -50, 63, -100);
        turns(new int[] {0, 0, 0, 0, 0, 0, 0, 100}, 0, 0, 0, 0, 0, 0, 25, 100);
    }

    private static void wrapsEveryStore() {
        // Predict takes cell 1 to 65535, which is kept, and read by update, as -1.
        turns(new int[] {-32768, 32767, -32768, 0, 0, 0, 0, 0},
            -32768, -1, -28672, 16384, 4096, 0, 0, 0);
        turns(new int[] {0, 0, 0, 0, 0, 0, 32767, -32768},
            0, 0, 0, 0, -4096, -16383, 28672, 1);
        // Update takes cell 0 to 32767 + 16384, which is kept as -16385.
        turns(new int[] {32767, 32767, -32767, 0, 0, 0, 0, 0},
            -16385, 32767, -20479, 16384, 4096, 0, 0, 0);
    }

    private static void doesNotNarrowASumBeforeTheShift() {
        turns(new int[] {32767, 32767, 32767, 32767, 32767, 32767, 32767, 32767},
            32767, 0, 32767, 0, 32767, 0, 32767, 0);
        turns(new int[] {0, 32767, 0, 32767, 0, 32767, 0, 32767},
            16384, 32767, 16384, 32767, 16384, 32767, 16384, 32767);
    }

    private static void agreesWithTheModel() {
        for (int n = 0; n < Checks.edgeLines(); n++) {
            int[] cells = Checks.edgeLine(n);
            turns(cells, Model.analysed(cells));
        }
        for (int n = 0; n < MIXED_LINES; n++) {
            int[] cells = Checks.mixedLine(n);
            turns(cells, Model.analysed(cells));
        }
    }

    private static void mayBeCalledAgainAndAgain() {
        int[] want = {5, -9, 300, 32767, -32768, 12, 0, -7};
        Lift53 x = Checks.holding(want);
        for (int n = 0; n < 1000; n++) {
            want = Model.analysed(want);
            Checks.due("analyse() number " + n, x.analyse(), want[0]);
            Checks.dueLine("after analyse() number " + n, x, want);
        }
    }

    private static void turns(int[] before, int... after) {
        Lift53 x = Checks.holding(before);
        String call = "analyse() on " + java.util.Arrays.toString(before);
        Checks.due(call, x.analyse(), after[0]);
        Checks.dueLine("after " + call, x, after);
    }
}
