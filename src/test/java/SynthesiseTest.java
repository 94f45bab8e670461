/** Promise 4: synthesising the line, and that the transform is reversible. */
public final class SynthesiseTest {
    public static void main(String[] args) {
        firstStageIsCompleteBeforeTheSecond();
        undoUpdateKeepsTheOddCells();
        undoUpdateLowers(0, 1, 1);
        undoUpdateLowers(2, 1, 3);
        undoUpdateLowers(4, 3, 5);
        undoUpdateLowers(6, 5, 7);
        undoPredictReadsTheNewNarrowedEvenCells();
        undoPredictKeepsTheEvenCells();
        undoPredictRaises(1, 0, 2);
        undoPredictRaises(3, 2, 4);
        undoPredictRaises(5, 4, 6);
        undoPredictRaises(7, 6, 6);
        everyStoreOfUndoUpdateWraps();
        everyStoreOfUndoPredictWraps();
        answersTheNewFirstCell();
        comesBackAfterAnalyse();
        comesBackByAnalyse();
        needsNoEarlierAnalyse();
        answersTheExample();
        agreesWithTheModel();
        Checks.end();
    }

    private static void firstStageIsCompleteBeforeTheSecond() {
        Checks.sentence("synthesise() changes the line in two stages, the first complete before the second begins.");
        Checks.synthesises(new int[] {0, 8, 0, 0, 0, 0, 0, 0}, -4, 5, -2, -1, 0, 0, 0, 0);
        Checks.synthesises(new int[] {0, 0, 0, 8, 0, 0, 0, 0}, 0, -1, -2, 6, -2, -1, 0, 0);
        Checks.synthesises(new int[] {0, 0, 0, 0, 0, 8, 0, 0}, 0, 0, 0, -1, -2, 6, -2, -2);
        Checks.synthesises(new int[] {0, 0, 0, 0, 0, 0, 0, 8}, 0, 0, 0, 0, 0, -1, -2, 6);
    }

    private static void undoUpdateKeepsTheOddCells() {
        Checks.sentence("The odd cells do not change in this stage. (undo update)");
        // The even cells come to 0, so that undo predict adds 0 to the odd ones.
        Checks.synthesises(new int[] {200, 400, 80, -80, -17, 12, 4, 4}, 0, 400, 0, -80, 0, 12, 0, 4);
        for (int v = -32768; v <= 32767; v++) {
            Checks.synthesises(Lines.striped(Math.floorDiv(v + v + 2, 4), v), Lines.striped(0, v));
        }
    }

    private static void undoUpdateLowers(int i, int left, int right) {
        Checks.sentence("line[" + i + "] is lowered by (line[" + left + "] + line[" + right + "] + 2) >> 2");
        Lines.each(cells -> {
            Lift53 x = Checks.holding(cells);
            x.synthesise();
            int fall = Math.floorDiv(cells[left] + cells[right] + 2, 4);
            Checks.dueGet(x, i, Model.wrap(cells[i] - fall));
        });
    }

    private static void undoPredictReadsTheNewNarrowedEvenCells() {
        Checks.sentence("reading the new even cells, as already narrowed by their stores.");
        // Cell 0 goes to -32769, kept as 32767; cell 2 is 0: cell 1 is raised by 16383.
        Checks.synthesises(new int[] {-32768, 1, 0, 0, 0, 0, 0, 0}, 32767, 16384, 0, 0, 0, 0, 0, 0);
        // Cell 0 goes to 32768, kept as -32768; cell 2 is 0: cell 1 is raised by -16384.
        Checks.synthesises(new int[] {32767, -2, 0, 0, 0, 0, 0, 0}, -32768, -16386, 0, 0, 0, 0, 0, 0);
        // Old even cells of 50 would raise the odd ones to 150; the new ones are 0.
        Checks.synthesises(Lines.striped(50, 100), Lines.striped(0, 100));
    }

    private static void undoPredictKeepsTheEvenCells() {
        Checks.sentence("The even cells do not change in this stage. (undo predict)");
        // Among odd cells of 0 undo update lowers nothing.
        Checks.synthesises(new int[] {10, 0, -20, 0, 400, 0, 7, 0}, 10, -5, -20, 190, 400, 203, 7, 7);
        for (int v = -32768; v <= 32767; v++) {
            Checks.synthesises(Lines.striped(v, 0), Lines.striped(v, v));
        }
    }

    private static void undoPredictRaises(int i, int left, int right) {
        Checks.sentence("line[" + i + "] is raised by (line[" + left + "] + line[" + right + "]) >> 1");
        Lines.each(cells -> {
            Lift53 x = Checks.holding(cells);
            x.synthesise();
            int raise = Math.floorDiv(x.get(left) + x.get(right), 2);
            Checks.dueGet(x, i, Model.wrap(cells[i] + raise));
        });
    }

    private static void everyStoreOfUndoUpdateWraps() {
        Checks.sentence("Every store wraps modulo 65536 to a short. (undo update)");
        // To 32768, to -32769, and as far beyond as it can go.
        Checks.synthesises(Lines.striped(32767, -2), Lines.striped(-32768, 32766));
        Checks.synthesises(Lines.striped(-32768, 1), Lines.striped(32767, -32768));
        Checks.synthesises(Lines.striped(32767, -32768), Lines.striped(-16385, 16383));
        Checks.synthesises(Lines.striped(-32768, 32767), Lines.striped(16384, -16385));
        // To 32767 and to -32768, which still fit.
        Checks.synthesises(Lines.striped(32766, -2), Lines.striped(32767, 32765));
        Checks.synthesises(Lines.striped(-32767, 1), Lines.striped(-32768, -32767));
    }

    private static void everyStoreOfUndoPredictWraps() {
        Checks.sentence("Every store wraps modulo 65536 to a short. (undo predict)");
        // Undo update wraps nowhere here. To 32768, to -32769, and far beyond.
        Checks.synthesises(Lines.striped(16385, 32767), Lines.striped(1, -32768));
        Checks.synthesises(Lines.striped(-16385, -32768), Lines.striped(-1, 32767));
        Checks.synthesises(Lines.striped(32767, 32767), Lines.striped(16383, -16386));
        Checks.synthesises(Lines.striped(-32768, -32768), Lines.striped(-16384, 16384));
        // To 32767 and to -32768, which still fit.
        Checks.synthesises(Lines.striped(16384, 32766), Lines.striped(1, 32767));
        Checks.synthesises(Lines.striped(-16384, -32767), Lines.striped(-1, -32768));
    }

    private static void answersTheNewFirstCell() {
        Checks.sentence("It answers the new line[0], the stored value (-32768..32767).");
        // The old first cell is 10, every other cell differs from the new one.
        Checks.dueSynthesise(Checks.holding(10, 100, 10, 0, 0, 0, 0, 0), -40);
        // One beyond either end of the range.
        Checks.dueSynthesise(Checks.holding(32767, -2, 0, 0, 0, 0, 0, 0), -32768);
        Checks.dueSynthesise(Checks.holding(-32768, 1, 0, 0, 0, 0, 0, 0), 32767);
        // The ends themselves.
        Checks.dueSynthesise(Checks.holding(32766, -2, 0, 0, 0, 0, 0, 0), 32767);
        Checks.dueSynthesise(Checks.holding(-32767, 1, 0, 0, 0, 0, 0, 0), -32768);
    }

    private static void comesBackAfterAnalyse() {
        Checks.sentence("for every content of the line, wrapped stores included, "
            + "analyse() followed directly by synthesise() leaves all 8 cells as they were before");
        Lines.each(cells -> {
            Lift53 x = Checks.holding(cells);
            x.analyse();
            Checks.dueSynthesise(x, cells[0]);
            Checks.dueLine("after analyse(), synthesise()", x, cells);
        });
    }

    private static void comesBackByAnalyse() {
        Checks.sentence("and so does synthesise() followed directly by analyse().");
        Lines.each(cells -> {
            Lift53 x = Checks.holding(cells);
            x.synthesise();
            Checks.dueAnalyse(x, cells[0]);
            Checks.dueLine("after synthesise(), analyse()", x, cells);
        });
    }

    private static void needsNoEarlierAnalyse() {
        Checks.sentence("synthesise() does not need an earlier analyse(); it acts on whatever the line holds.");
        Lift53 fresh = new Lift53();
        Checks.dueSynthesise(fresh, 0);
        Checks.dueLine("after synthesise() on a new object", fresh, 0, 0, 0, 0, 0, 0, 0, 0);
        // Twice in a row, and after an analyse() whose line has since been set anew.
        Lift53 x = Checks.holding(1, 0, 3, 0, 5, 0, 7, 1);
        Checks.dueSynthesise(x, 1);
        Checks.dueLine("after synthesise()", x, 1, 2, 3, 4, 5, 6, 7, 8);
        Checks.dueSynthesise(x, 0);
        Checks.dueLine("after synthesise() twice", x, Model.synthesised(new int[] {1, 2, 3, 4, 5, 6, 7, 8}));
        x.analyse();
        for (int i = 0; i < Checks.CELLS; i++) {
            x.set(i, i == 1 ? 100 : 0);
        }
        Checks.dueSynthesise(x, -50);
        Checks.dueLine("after analyse(), sets, synthesise()", x, -50, 62, -25, -13, 0, 0, 0, 0);
    }

    private static void answersTheExample() {
        Checks.sentence("on the line 0, 1, 0, 0, 0, 0, 0, 0 "
            + "the line becomes -1, 0, 0, 0, 0, 0, 0, 0 and the answer is -1.");
        Checks.synthesises(new int[] {0, 1, 0, 0, 0, 0, 0, 0}, -1, 0, 0, 0, 0, 0, 0, 0);
    }

    private static void agreesWithTheModel() {
        Checks.sentence("synthesise(), the whole promise");
        Lines.each(cells -> Checks.synthesises(cells, Model.synthesised(cells)));
    }
}
