/** What holds throughout: the sentences under "What it is", but for the last, which is NothingThrowsTest's. */
public final class TermsTest {
    private static final int[] ZEROS = new int[Checks.CELLS];
    private static final int[] START = {5, -9, 300, 32767, -32768, 12, 0, -7};

    private static final int KINDS_OF_CALL = 7;
    private static final int CALLS_IN_A_ROW = 6;
    private static final int MANY = 100000;

    private static final int LOWEST_SUM = -65536;
    private static final int HIGHEST_SUM = 65534;

    public static void main(String[] args) {
        cellsAreTheWholeState();
        cellsStayInRange();
        callsComeInAnyOrder();
        callsComeAnyNumberOfTimes();
        indexOutsideAnswers65536();
        validIndexNeverAnswers65536();
        leftMirrorsAtTheFirstCell();
        rightMirrorsAtTheLastCell();
        sumsAreOfSignedValues();
        sumsAreNotNarrowed();
        shiftsFloor();
        storesWrap();
        storesDoNotClamp();
        Checks.end();
    }

    private static void cellsAreTheWholeState() {
        Checks.sentence("The 8 cells are the whole state of an object.");
        Lift53 old = new Lift53();
        for (int n = 0; n < 1000; n++) {
            leadAnEventfulLife(old, n);
            int[] cells = Lines.mixed(n);
            for (int i = 0; i < Checks.CELLS; i++) {
                old.set(i, cells[i]);
            }
            behavesAs(Checks.holding(cells), old, n);
        }
        Lift53 other = Checks.holding(START);
        old.analyse();
        new Lift53().set(3, 99);
        Checks.dueLine("after calls on other objects", other, START);
    }

    private static void leadAnEventfulLife(Lift53 x, int n) {
        x.set(-1, n);
        x.get(8);
        x.set(n % Checks.CELLS, 32767);
        if (n % 2 == 0) {
            x.analyse();
        }
        if (n % 3 == 0) {
            x.synthesise();
        }
        if (n % 5 == 0) {
            x.set(8, 1);
        }
    }

    private static void behavesAs(Lift53 fresh, Lift53 old, int n) {
        if (n % 2 == 0) {
            Checks.dueSynthesise(old, fresh.synthesise());
        } else {
            Checks.dueAnalyse(old, fresh.analyse());
        }
        Checks.dueLine("with the same cells and another past", old, Checks.lineOf(fresh));
    }

    private static void cellsStayInRange() {
        Checks.sentence("Each cell always holds a value from -32768 to 32767.");
        for (int v : Lines.VALUES) {
            for (int w : Lines.VALUES) {
                Lift53 x = Checks.holding(Lines.striped(v, w));
                isInRange(x);
                x.analyse();
                isInRange(x);
                x.analyse();
                isInRange(x);
                x.synthesise();
                x.synthesise();
                x.synthesise();
                isInRange(x);
            }
        }
    }

    private static void isInRange(Lift53 x) {
        for (int cell : Checks.lineOf(x)) {
            Checks.holds("cell " + cell + " in range", cell >= -32768 && cell <= 32767);
        }
    }

    private static void callsComeInAnyOrder() {
        Checks.sentence("All methods may be called in any order and any number of times, "
            + "whatever was called before. (in any order)");
        int rows = 1;
        for (int n = 0; n < CALLS_IN_A_ROW; n++) {
            rows *= KINDS_OF_CALL;
        }
        for (int row = 0; row < rows; row++) {
            Lift53 x = new Lift53();
            int[] want = ZEROS.clone();
            int rest = row;
            for (int n = 0; n < CALLS_IN_A_ROW; n++) {
                want = afterCall(rest % KINDS_OF_CALL, x, want);
                rest /= KINDS_OF_CALL;
            }
            Checks.dueLine("after row " + row, x, want);
        }
    }

    private static int[] afterCall(int kind, Lift53 x, int[] before) {
        int[] after = before.clone();
        switch (kind) {
            case 0 -> after = Model.analysed(before);
            case 1 -> after = Model.synthesised(before);
            case 2 -> after[0] = 32767;
            case 3 -> after[7] = -32768;
            default -> { }
        }
        switch (kind) {
            case 0 -> Checks.dueAnalyse(x, after[0]);
            case 1 -> Checks.dueSynthesise(x, after[0]);
            case 2 -> Checks.dueSet(x, 0, 32767, 32767);
            case 3 -> Checks.dueSet(x, 7, 32768, -32768);
            case 4 -> Checks.dueSet(x, 8, 1, Checks.NO_SUCH_CELL);
            case 5 -> Checks.dueGet(x, -1, Checks.NO_SUCH_CELL);
            default -> Checks.dueGet(x, 1, before[1]);
        }
        return after;
    }

    private static void callsComeAnyNumberOfTimes() {
        Checks.sentence("All methods may be called in any order and any number of times, "
            + "whatever was called before. (any number of times)");
        Lift53 x = Checks.holding(START);
        int[] want = START;
        for (int n = 0; n < MANY; n++) {
            want = Model.analysed(want);
            Checks.dueAnalyse(x, want[0]);
            Checks.dueLine("after many calls of analyse()", x, want);
        }
        for (int n = 0; n < MANY; n++) {
            want = Model.synthesised(want);
            Checks.dueSynthesise(x, want[0]);
            Checks.dueLine("after many calls of synthesise()", x, want);
        }
        Checks.dueLine("after as many calls back", x, START);
    }

    private static void indexOutsideAnswers65536() {
        Checks.sentence("The number 65536 is the answer of set and get for an index outside 0..7");
        Lift53 x = Checks.holding(START);
        for (int i : Lines.WRONG_INDEXES) {
            Checks.dueSet(x, i, 1, 65536);
            Checks.dueGet(x, i, 65536);
        }
    }

    private static void validIndexNeverAnswers65536() {
        Checks.sentence("it lies outside the range of cell values, "
            + "so it is never the answer for a valid index.");
        Lift53 x = new Lift53();
        for (int i = 0; i < Checks.CELLS; i++) {
            Checks.dueSet(x, i, 65536, 0);
            Checks.dueGet(x, i, 0);
            for (int v = -65536; v <= 65536; v++) {
                Checks.holds("set(" + i + ", " + v + ") other than 65536", x.set(i, v) != 65536);
                Checks.holds("get(" + i + ") other than 65536", x.get(i) != 65536);
            }
        }
    }

    // One cell of 100 in a line of zeros: only its neighbours may see it.

    private static void leftMirrorsAtTheFirstCell() {
        Checks.sentence("left(i) is line[i-1] for i > 0, and line[1] for i = 0.");
        Checks.analyses(new int[] {0, 100, 0, 0, 0, 0, 0, 0}, 50, 100, 25, 0, 0, 0, 0, 0);
        Checks.analyses(new int[] {100, 0, 0, 0, 0, 0, 0, 0}, 75, -50, -12, 0, 0, 0, 0, 0);
        Checks.analyses(new int[] {0, 0, 100, 0, 0, 0, 0, 0}, -25, -50, 75, -50, -12, 0, 0, 0);
        Checks.analyses(new int[] {0, 0, 0, 100, 0, 0, 0, 0}, 0, 0, 25, 100, 25, 0, 0, 0);
        Checks.synthesises(new int[] {0, 100, 0, 0, 0, 0, 0, 0}, -50, 62, -25, -13, 0, 0, 0, 0);
        Checks.synthesises(new int[] {100, 0, 0, 0, 0, 0, 0, 0}, 100, 50, 0, 0, 0, 0, 0, 0);
        Checks.synthesises(new int[] {0, 0, 100, 0, 0, 0, 0, 0}, 0, 50, 100, 50, 0, 0, 0, 0);
        Checks.synthesises(new int[] {0, 0, 0, 100, 0, 0, 0, 0}, 0, -13, -25, 75, -25, -13, 0, 0);
    }

    private static void rightMirrorsAtTheLastCell() {
        Checks.sentence("right(i) is line[i+1] for i < 7, and line[6] for i = 7.");
        Checks.analyses(new int[] {0, 0, 0, 0, 0, 0, 100, 0}, 0, 0, 0, 0, -12, -50, 63, -100);
        Checks.analyses(new int[] {0, 0, 0, 0, 0, 0, 0, 100}, 0, 0, 0, 0, 0, 0, 25, 100);
        Checks.analyses(new int[] {0, 0, 0, 0, 0, 100, 0, 0}, 0, 0, 0, 0, 25, 100, 25, 0);
        Checks.analyses(new int[] {0, 0, 0, 0, 100, 0, 0, 0}, 0, 0, -12, -50, 75, -50, -12, 0);
        Checks.synthesises(new int[] {0, 0, 0, 0, 0, 0, 100, 0}, 0, 0, 0, 0, 0, 50, 100, 100);
        Checks.synthesises(new int[] {0, 0, 0, 0, 0, 0, 0, 100}, 0, 0, 0, 0, 0, -13, -25, 75);
        Checks.synthesises(new int[] {0, 0, 0, 0, 0, 100, 0, 0}, 0, 0, 0, -13, -25, 75, -25, -25);
        Checks.synthesises(new int[] {0, 0, 0, 0, 100, 0, 0, 0}, 0, 0, 0, 50, 100, 50, 0, 0);
    }

    private static void sumsAreOfSignedValues() {
        Checks.sentence("Sums and shifts are done in int, on the cells' signed values.");
        Checks.analyses(Lines.striped(-1, 0), Lines.striped(0, 1));
        Checks.analyses(Lines.striped(0, -1), Lines.striped(0, -1));
        Checks.analyses(new int[] {-5, 0, 5, 0, -5, 0, 5, 0}, -5, 0, 5, 0, -5, 0, 4, -5);
        Checks.analyses(new int[] {0, -5, 0, 5, 0, -5, 0, 5}, -2, -5, 0, 5, 0, -5, 0, 5);
        Checks.synthesises(Lines.striped(-1, 0), Lines.striped(-1, -1));
        Checks.synthesises(Lines.striped(0, -1), Lines.striped(0, -1));
        Checks.synthesises(new int[] {-5, 0, 5, 0, -5, 0, 5, 0}, -5, 0, 5, 0, -5, 0, 5, 5);
        Checks.synthesises(new int[] {0, -5, 0, 5, 0, -5, 0, 5}, 2, -4, 0, 5, 0, -5, 0, 5);
    }

    private static void sumsAreNotNarrowed() {
        Checks.sentence("A sum is not narrowed before it is shifted.");
        // The highest and the lowest sum, then the first ones that a short can't hold.
        Checks.analyses(Lines.striped(32767, 32767), Lines.striped(32767, 0));
        Checks.analyses(Lines.striped(-32768, -32768), Lines.striped(-32768, 0));
        Checks.analyses(Lines.striped(0, 32767), Lines.striped(16384, 32767));
        Checks.analyses(Lines.striped(0, -32768), Lines.striped(-16384, -32768));
        Checks.analyses(Lines.striped(16384, 16384), Lines.striped(16384, 0));
        Checks.analyses(Lines.striped(0, 16383), Lines.striped(8192, 16383));
        Checks.analyses(Lines.striped(0, -16386), Lines.striped(-8193, -16386));
        Checks.synthesises(Lines.striped(32767, 0), Lines.striped(32767, 32767));
        Checks.synthesises(Lines.striped(-32768, 0), Lines.striped(-32768, -32768));
        Checks.synthesises(Lines.striped(0, 32767), Lines.striped(-16384, 16383));
        Checks.synthesises(Lines.striped(0, -32768), Lines.striped(16384, -16384));
        Checks.synthesises(Lines.striped(16384, 0), Lines.striped(16384, 16384));
        Checks.synthesises(Lines.striped(0, 16383), Lines.striped(-8192, 8191));
        Checks.synthesises(Lines.striped(0, -16386), Lines.striped(8193, -8193));
        for (int sum = LOWEST_SUM; sum <= HIGHEST_SUM; sum++) {
            addsUpTo(sum);
        }
    }

    private static void shiftsFloor() {
        Checks.sentence(">> is the arithmetic, flooring shift: "
            + "-1 >> 1 is -1, -3 >> 1 is -2, -1 >> 2 is -1.");
        Checks.analyses(new int[] {-1, 0, 0, 0, 0, 0, 0, 0}, 0, 1, 0, 0, 0, 0, 0, 0);
        Checks.analyses(new int[] {-3, 0, 0, 0, 0, 0, 0, 0}, -2, 2, 1, 0, 0, 0, 0, 0);
        Checks.analyses(new int[] {0, 0, 0, -3, 0, 0, 0, 0}, 0, 0, -1, -3, -1, 0, 0, 0);
        Checks.analyses(new int[] {0, -2, 0, 0, 0, 0, 0, 0}, -1, -2, 0, 0, 0, 0, 0, 0);
        Checks.synthesises(new int[] {-1, 0, 0, 0, 0, 0, 0, 0}, -1, -1, 0, 0, 0, 0, 0, 0);
        Checks.synthesises(new int[] {-3, 0, 0, 0, 0, 0, 0, 0}, -3, -2, 0, 0, 0, 0, 0, 0);
        Checks.synthesises(new int[] {0, 0, 0, -3, 0, 0, 0, 0}, 0, 0, 1, -2, 1, 0, 0, 0);
        Checks.synthesises(new int[] {0, -2, 0, 0, 0, 0, 0, 0}, 1, -2, 0, 0, 0, 0, 0, 0);
        for (int sum = -20; sum <= 20; sum++) {
            addsUpTo(sum);
        }
    }

    /** Lines in which the two neighbours of every cell but the outermost have this sum. */
    private static void addsUpTo(int sum) {
        int a = Math.floorDiv(sum, 2);
        int b = sum - a;
        int[] inEvenCells = {a, 0, b, 0, a, 0, b, 0};
        int[] inOddCells = {0, a, 0, b, 0, a, 0, b};
        Checks.analyses(inEvenCells, Model.analysed(inEvenCells));
        Checks.analyses(inOddCells, Model.analysed(inOddCells));
        Checks.synthesises(inEvenCells, Model.synthesised(inEvenCells));
        Checks.synthesises(inOddCells, Model.synthesised(inOddCells));
    }

    private static void storesWrap() {
        Checks.sentence("Every store into a cell narrows to short, "
            + "that is, it wraps modulo 65536 into -32768..32767.");
        // Each of the five kinds of store, one beyond either end of the range.
        for (int i = 0; i < Checks.CELLS; i++) {
            Checks.dueSet(new Lift53(), i, 32768, -32768);
            Checks.dueSet(new Lift53(), i, -32769, 32767);
        }
        // Predict, at every odd cell.
        Checks.analyses(Lines.striped(-1, 32767), Lines.striped(-16385, -32768));
        Checks.analyses(Lines.striped(1, -32768), Lines.striped(16385, 32767));
        // Update, at every even cell.
        Checks.analyses(Lines.striped(32767, -32768), Lines.striped(-32768, 1));
        Checks.analyses(Lines.striped(-32768, 32766), Lines.striped(32767, -2));
        // Undo update, at every even cell.
        Checks.synthesises(Lines.striped(32767, -2), Lines.striped(-32768, 32766));
        Checks.synthesises(Lines.striped(-32768, 1), Lines.striped(32767, -32768));
        // Undo predict, at every odd cell.
        Checks.synthesises(Lines.striped(16385, 32767), Lines.striped(1, -32768));
        Checks.synthesises(Lines.striped(-16385, -32768), Lines.striped(-1, 32767));
    }

    private static void storesDoNotClamp() {
        Checks.sentence("There is no clamping.");
        // As far beyond the ends as each kind of store can go.
        for (int i = 0; i < Checks.CELLS; i++) {
            Checks.dueSet(new Lift53(), i, Integer.MAX_VALUE, -1);
            Checks.dueSet(new Lift53(), i, Integer.MIN_VALUE, 0);
        }
        // Predict, to 32767 + 32768 and to -32768 - 32767.
        Checks.analyses(Lines.striped(-32768, 32767), Lines.striped(-32768, -1));
        Checks.analyses(Lines.striped(32767, -32768), Lines.striped(-32768, 1));
        // Update, to 32767 + 16384 and to -32768 - 16384.
        Checks.analyses(Lines.striped(32767, -2), Lines.striped(-16385, 32767));
        Checks.analyses(Lines.striped(-32768, 0), Lines.striped(16384, -32768));
        // Undo update, to 32767 + 16384 and to -32768 - 16384.
        Checks.synthesises(Lines.striped(32767, -32768), Lines.striped(-16385, 16383));
        Checks.synthesises(Lines.striped(-32768, 32767), Lines.striped(16384, -16385));
        // Undo predict, to 32767 + 32767 and to -32768 - 32768.
        Checks.synthesises(Lines.striped(-16385, 32767), Lines.striped(32767, -2));
        Checks.synthesises(Lines.striped(16384, -32768), Lines.striped(-32768, 0));
    }
}
