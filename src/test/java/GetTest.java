/** Promise 5: reading a cell. */
public final class GetTest {
    private static final int[] CELLS = {-32768, 32767, -1, 0, 1, -25536, 255, -256};

    public static void main(String[] args) {
        indexTooSmallIsRefused();
        indexTooLargeIsRefused();
        validIndexAnswersTheCell();
        refusedCallChangesNothing();
        readingChangesNothing();
        Checks.end();
    }

    private static void indexTooSmallIsRefused() {
        Checks.sentence("If i < 0 or i > 7 (any such int), it answers 65536. (i < 0)");
        Lift53 x = Checks.holding(CELLS);
        for (int i = -1; i < 0 && !Checks.isBroken(); i--) {
            Checks.dueGet(x, i, Checks.NO_SUCH_CELL);
        }
        Checks.dueGet(new Lift53(), -1, Checks.NO_SUCH_CELL);
        Checks.dueGet(new Lift53(), Integer.MIN_VALUE, Checks.NO_SUCH_CELL);
    }

    private static void indexTooLargeIsRefused() {
        Checks.sentence("If i < 0 or i > 7 (any such int), it answers 65536. (i > 7)");
        Lift53 x = Checks.holding(CELLS);
        for (int i = Checks.CELLS; i > 0 && !Checks.isBroken(); i++) {
            Checks.dueGet(x, i, Checks.NO_SUCH_CELL);
        }
        Checks.dueGet(new Lift53(), 8, Checks.NO_SUCH_CELL);
        Checks.dueGet(new Lift53(), Integer.MAX_VALUE, Checks.NO_SUCH_CELL);
    }

    private static void validIndexAnswersTheCell() {
        Checks.sentence("Otherwise it answers line[i], the signed value in -32768..32767.");
        Lift53 x = Checks.holding(CELLS);
        for (int i = 0; i < Checks.CELLS; i++) {
            Checks.dueGet(x, i, CELLS[i]);
        }
        for (int i = 0; i < Checks.CELLS; i++) {
            for (int v = -32768; v <= 32767; v++) {
                x.set(i, v);
                Checks.dueGet(x, i, v);
            }
        }
    }

    private static void refusedCallChangesNothing() {
        Checks.sentence("It changes nothing in either case. (wrong index)");
        Lift53 x = Checks.holding(CELLS);
        for (int i : Lines.WRONG_INDEXES) {
            x.get(i);
            Checks.dueLine("after get(" + i + ")", x, CELLS);
        }
        staysAsItWas(x);
    }

    private static void readingChangesNothing() {
        Checks.sentence("It changes nothing in either case. (valid index)");
        Lift53 x = Checks.holding(CELLS);
        for (int i = 0; i < Checks.CELLS; i++) {
            x.get(i);
            x.get(i);
            Checks.dueLine("after get(" + i + ")", x, CELLS);
        }
        staysAsItWas(x);
    }

    private static void staysAsItWas(Lift53 x) {
        int[] want = Model.analysed(CELLS);
        Checks.dueAnalyse(x, want[0]);
        Checks.dueLine("analysed after the reads", x, want);
    }
}
