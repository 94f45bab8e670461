/** Promise 5: reading a cell. */
public final class GetTest {
    private static final int[] CELLS = {-32768, 32767, -1, 0, 1, -25536, 255, -256};

    public static void main(String[] args) {
        answersEachCell();
        wrongIndexIsTold();
        changesNothing();
        Checks.end();
    }

    private static void answersEachCell() {
        Lift53 x = Checks.holding(CELLS);
        for (int i = 0; i < Checks.CELLS; i++) {
            Checks.due("get(" + i + ")", x.get(i), CELLS[i]);
        }
    }

    private static void wrongIndexIsTold() {
        Lift53 x = Checks.holding(CELLS);
        Lift53 fresh = new Lift53();
        for (int i : Checks.WRONG_INDEXES) {
            Checks.due("get(" + i + ")", x.get(i), Checks.NO_SUCH_CELL);
            Checks.due("get(" + i + ") on a new object", fresh.get(i), Checks.NO_SUCH_CELL);
        }
    }

    private static void changesNothing() {
        Lift53 x = Checks.holding(CELLS);
        for (int i : Checks.WRONG_INDEXES) {
            x.get(i);
            Checks.dueLine("after get(" + i + ")", x, CELLS);
        }
        for (int i = 0; i < Checks.CELLS; i++) {
            x.get(i);
            Checks.dueLine("after get(" + i + ")", x, CELLS);
        }
        int[] want = Model.analysed(CELLS);
        Checks.due("analyse() after the reads", x.analyse(), want[0]);
        Checks.dueLine("analysed after the reads", x, want);
    }
}
