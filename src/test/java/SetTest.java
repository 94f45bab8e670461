/** Promise 2: setting a cell. */
public final class SetTest {
    private static final int[] CELLS = {101, -202, 303, -404, 505, -606, 707, -808};

    // Makes each index come with a value of its own, from the whole range of an int.
    private static final int SPREAD = 0x9E3779B1;

    public static void main(String[] args) {
        indexTooSmallIsRefused();
        indexTooLargeIsRefused();
        refusedCallChangesNothing();
        refusedCallDoesNotLookAtTheValue();
        validIndexStoresAndAnswers();
        everyIntIsNarrowed();
        answerIsTheNarrowedValue();
        otherCellsDoNotChange();
        answersTheExamples();
        Checks.end();
    }

    private static void indexTooSmallIsRefused() {
        Checks.sentence("If i < 0 or i > 7 (any such int, however small or large), it answers 65536 (i < 0)");
        Lift53 x = Checks.holding(CELLS);
        for (int i = -1; i < 0 && !Checks.isBroken(); i--) {
            Checks.dueSet(x, i, i * SPREAD, Checks.NO_SUCH_CELL);
        }
        Checks.dueLine("after set at every index too small", x, CELLS);
    }

    private static void indexTooLargeIsRefused() {
        Checks.sentence("If i < 0 or i > 7 (any such int, however small or large), it answers 65536 (i > 7)");
        Lift53 x = Checks.holding(CELLS);
        for (int i = Checks.CELLS; i > 0 && !Checks.isBroken(); i++) {
            Checks.dueSet(x, i, i * SPREAD, Checks.NO_SUCH_CELL);
        }
        Checks.dueLine("after set at every index too large", x, CELLS);
    }

    private static void refusedCallChangesNothing() {
        Checks.sentence("it answers 65536 and nothing changes");
        int[] analysed = Model.analysed(CELLS);
        for (int i : Lines.WRONG_INDEXES) {
            Lift53 x = Checks.holding(CELLS);
            x.set(i, 12345);
            Checks.dueLine("after set(" + i + ", 12345)", x, CELLS);
            x.analyse();
            x.set(i, 12345);
            Checks.dueLine("after analyse(), set(" + i + ", 12345)", x, analysed);
            Lift53 fresh = new Lift53();
            fresh.set(i, 12345);
            Checks.dueLine("after set(" + i + ", 12345) on a new object", fresh, 0, 0, 0, 0, 0, 0, 0, 0);
        }
    }

    private static void refusedCallDoesNotLookAtTheValue() {
        Checks.sentence("it answers 65536 and nothing changes, whatever v is.");
        Lift53 x = Checks.holding(CELLS);
        for (int i : Lines.WRONG_INDEXES) {
            for (int v : Lines.VALUES) {
                Checks.dueSet(x, i, v, Checks.NO_SUCH_CELL);
                Checks.dueLine("after set(" + i + ", " + v + ")", x, CELLS);
            }
            for (int v = -65536; v <= 65536; v++) {
                Checks.dueSet(x, i, v, Checks.NO_SUCH_CELL);
            }
            Checks.dueLine("after many values at " + i, x, CELLS);
        }
    }

    private static void validIndexStoresAndAnswers() {
        Checks.sentence("Otherwise (0 <= i <= 7) it stores (short) v in line[i] "
            + "and answers the stored value, which is in -32768..32767.");
        Lift53 x = new Lift53();
        for (int i = 0; i < Checks.CELLS; i++) {
            for (int v = -32768; v <= 32767; v++) {
                Checks.dueSet(x, i, v, v);
                Checks.dueGet(x, i, v);
            }
        }
    }

    private static void everyIntIsNarrowed() {
        Checks.sentence("v may be any int; only its value modulo 65536 matters.");
        Lift53 x = new Lift53();
        int v = Integer.MIN_VALUE;
        do {
            // The mask keeps the low sixteen bits, the rest brings back their sign:
            // Model.wrap's division would be slow on so many.
            Checks.dueSet(x, v & 7, v, ((v & 0xFFFF) ^ 0x8000) - 0x8000);
            v++;
        } while (v != Integer.MIN_VALUE && !Checks.isBroken());
        for (int value : Lines.VALUES) {
            for (int i = 0; i < Checks.CELLS; i++) {
                Checks.dueSet(x, i, value, Model.wrap(value));
                Checks.dueGet(x, i, Model.wrap(value));
            }
        }
    }

    private static void answerIsTheNarrowedValue() {
        Checks.sentence("The answer is the value after narrowing, not v itself and not the old value of the cell.");
        for (int i = 0; i < Checks.CELLS; i++) {
            Lift53 x = Checks.holding(77, 77, 77, 77, 77, 77, 77, 77);
            Checks.dueSet(x, i, 65536 + 5, 5);
            Checks.dueSet(x, i, -65536 - 6, -6);
            Checks.dueSet(x, i, 9, 9);
        }
    }

    private static void otherCellsDoNotChange() {
        Checks.sentence("The other seven cells do not change.");
        for (int i = 0; i < Checks.CELLS; i++) {
            for (int v : Lines.VALUES) {
                Lift53 x = Checks.holding(CELLS);
                int[] want = CELLS.clone();
                want[i] = Model.wrap(v);
                x.set(i, v);
                Checks.dueLine("after set(" + i + ", " + v + ")", x, want);
            }
        }
    }

    private static void answersTheExamples() {
        answersTheExample("v = 32767 stores and answers 32767", 32767, 32767);
        answersTheExample("v = 32768 stores and answers -32768", 32768, -32768);
        answersTheExample("v = 40000 stores and answers -25536", 40000, -25536);
        answersTheExample("v = 65536 stores and answers 0", 65536, 0);
        answersTheExample("v = -32769 stores and answers 32767", -32769, 32767);
    }

    private static void answersTheExample(String example, int v, int want) {
        Checks.sentence(example);
        for (int i = 0; i < Checks.CELLS; i++) {
            Lift53 x = Checks.holding(77, 77, 77, 77, 77, 77, 77, 77);
            Checks.dueSet(x, i, v, want);
            Checks.dueGet(x, i, want);
        }
    }
}
