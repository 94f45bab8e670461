/** Promise 3: analysing the line. */
public final class AnalyseTest {
    public static void main(String[] args) {
        firstStageIsCompleteBeforeTheSecond();
        predictKeepsTheEvenCells();
        predictLowers(1, 0, 2);
        predictLowers(3, 2, 4);
        predictLowers(5, 4, 6);
        predictLowers(7, 6, 6);
        updateReadsTheNewNarrowedOddCells();
        updateKeepsTheOddCells();
        updateRaises(0, 1, 1);
        updateRaises(2, 1, 3);
        updateRaises(4, 3, 5);
        updateRaises(6, 5, 7);
        everyStoreOfPredictWraps();
        everyStoreOfUpdateWraps();
        answersTheInstance();
        answersTheNewFirstCell();
        zerosStayZeros();
        answersTheExample();
        agreesWithTheModel();
        Checks.end();
    }

    private static void firstStageIsCompleteBeforeTheSecond() {
        Checks.sentence("analyse() changes the line in two stages, the first complete before the second begins.");
        Checks.analyses(new int[] {0, 0, 8, 0, 0, 0, 0, 0}, -2, -4, 6, -4, -1, 0, 0, 0);
        Checks.analyses(new int[] {0, 0, 0, 0, 8, 0, 0, 0}, 0, 0, -1, -4, 6, -4, -1, 0);
        Checks.analyses(new int[] {0, 0, 0, 0, 0, 0, 8, 0}, 0, 0, 0, 0, -1, -4, 5, -8);
    }

    private static void predictKeepsTheEvenCells() {
        Checks.sentence("The even cells do not change in this stage. (predict)");
        // On an even slope every odd cell but the last comes to 0, so that update adds 0.
        Checks.analyses(new int[] {1, 2, 3, 4, 5, 6, 7, 8}, 1, 0, 3, 0, 5, 0, 7, 1);
        for (int v = -32768; v <= 32767; v++) {
            Checks.analyses(Lines.striped(v, v), Lines.striped(v, 0));
        }
    }

    private static void predictLowers(int i, int left, int right) {
        Checks.sentence("line[" + i + "] is lowered by (line[" + left + "] + line[" + right + "]) >> 1");
        Lines.each(cells -> {
            Lift53 x = Checks.holding(cells);
            x.analyse();
            Checks.dueGet(x, i, Model.wrap(cells[i] - Math.floorDiv(cells[left] + cells[right], 2)));
        });
    }

    private static void updateReadsTheNewNarrowedOddCells() {
        Checks.sentence("reading the new odd cells, as already narrowed by their stores.");
        // Predict takes the odd cells to 65535, kept as -1: update adds (-1 - 1 + 2) >> 2 = 0.
        Checks.analyses(Lines.striped(-32768, 32767), Lines.striped(-32768, -1));
        // To -65535, kept as 1: update adds (1 + 1 + 2) >> 2 = 1 to 32767.
        Checks.analyses(Lines.striped(32767, -32768), Lines.striped(-32768, 1));
        // Old odd cells of 100 would add 50; the new ones are 0 and add 0.
        Checks.analyses(Lines.striped(100, 100), Lines.striped(100, 0));
    }

    private static void updateKeepsTheOddCells() {
        Checks.sentence("The odd cells do not change in this stage. (update)");
        // Among even cells of 0 predict lowers nothing.
        Checks.analyses(new int[] {0, 400, 0, -80, 0, 12, 0, 4}, 200, 400, 80, -80, -17, 12, 4, 4);
        for (int v = -32768; v <= 32767; v++) {
            Checks.analyses(Lines.striped(0, v), Lines.striped(Math.floorDiv(v + v + 2, 4), v));
        }
    }

    private static void updateRaises(int i, int left, int right) {
        Checks.sentence("line[" + i + "] is raised by (line[" + left + "] + line[" + right + "] + 2) >> 2");
        Lines.each(cells -> {
            Lift53 x = Checks.holding(cells);
            x.analyse();
            int raise = Math.floorDiv(x.get(left) + x.get(right) + 2, 4);
            Checks.dueGet(x, i, Model.wrap(cells[i] + raise));
        });
    }

    private static void everyStoreOfPredictWraps() {
        Checks.sentence("Every store wraps modulo 65536 to a short. (predict)");
        // To 32768, to -32769, and as far beyond as it can go.
        Checks.analyses(Lines.striped(-1, 32767), Lines.striped(-16385, -32768));
        Checks.analyses(Lines.striped(1, -32768), Lines.striped(16385, 32767));
        Checks.analyses(Lines.striped(-32768, 32767), Lines.striped(-32768, -1));
        Checks.analyses(Lines.striped(32767, -32768), Lines.striped(-32768, 1));
        // To 32767 and to -32768, which still fit.
        Checks.analyses(Lines.striped(-1, 32766), Lines.striped(16383, 32767));
        Checks.analyses(Lines.striped(1, -32767), Lines.striped(-16383, -32768));
    }

    private static void everyStoreOfUpdateWraps() {
        Checks.sentence("Every store wraps modulo 65536 to a short. (update)");
        // Predict wraps nowhere here. Cells 0 and 4, then 2 and 6, go to 32768.
        Checks.analyses(new int[] {32767, 1, -32767, 1, 32767, 1, -32767, -32766},
            -32768, 1, -32766, 1, -32768, 1, -32766, 1);
        Checks.analyses(new int[] {-32767, 1, 32767, 1, -32767, 2, 32767, 32767},
            -32766, 1, -32768, 1, -32766, 2, -32768, 0);
        // Cells 0 and 4, then 2 and 6, go to -32769.
        Checks.analyses(new int[] {-32768, -3, 32767, -3, -32768, -3, 32767, 32764},
            32767, -2, 32766, -2, 32767, -2, 32766, -3);
        Checks.analyses(new int[] {32767, -3, -32768, -3, 32767, -4, -32768, -32768},
            32766, -2, 32767, -2, 32766, -3, 32767, 0);
        // Cell 0 goes to 32767 + 16384.
        Checks.analyses(new int[] {32767, 32767, -32767, 0, 0, 0, 0, 0},
            -16385, 32767, -20479, 16384, 4096, 0, 0, 0);
    }

    private static void answersTheInstance() {
        Checks.sentence("with line[0] = line[2] = -32768 and line[1] = 32767, "
            + "predict gives 32767 + 32768 = 65535, stored in line[1] as -1.");
        Checks.analyses(new int[] {-32768, 32767, -32768, 0, 0, 0, 0, 0},
            -32768, -1, -28672, 16384, 4096, 0, 0, 0);
    }

    private static void answersTheNewFirstCell() {
        Checks.sentence("It answers the new line[0], the stored value (-32768..32767).");
        // The old first cell is 10, every other cell differs from the new one.
        Checks.dueAnalyse(Checks.holding(10, 110, 10, 0, 0, 0, 0, 0), 60);
        // One beyond either end of the range.
        Checks.dueAnalyse(Checks.holding(32767, 1, -32767, 0, 0, 0, 0, 0), -32768);
        Checks.dueAnalyse(Checks.holding(-32768, -3, 32767, 0, 0, 0, 0, 0), 32767);
        // The ends themselves.
        Checks.dueAnalyse(Checks.holding(32766, 1, -32766, 0, 0, 0, 0, 0), 32767);
        Checks.dueAnalyse(Checks.holding(-32767, -2, 32767, 0, 0, 0, 0, 0), -32768);
    }

    private static void zerosStayZeros() {
        Checks.sentence("on an all-zero line nothing changes and the answer is 0.");
        Lift53 x = new Lift53();
        Checks.dueAnalyse(x, 0);
        Checks.dueLine("after analyse() on a new object", x, 0, 0, 0, 0, 0, 0, 0, 0);
        Checks.analyses(Lines.striped(0, 0), Lines.striped(0, 0));
    }

    private static void answersTheExample() {
        Checks.sentence("With line[0] = -1 and all other cells 0, "
            + "the line becomes 0, 1, 0, 0, 0, 0, 0, 0 and the answer is 0.");
        Checks.analyses(new int[] {-1, 0, 0, 0, 0, 0, 0, 0}, 0, 1, 0, 0, 0, 0, 0, 0);
    }

    private static void agreesWithTheModel() {
        Checks.sentence("analyse(), the whole promise");
        Lines.each(cells -> Checks.analyses(cells, Model.analysed(cells)));
    }
}
