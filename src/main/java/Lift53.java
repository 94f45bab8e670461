/** The reversible 5/3 lifting transform, in place, on a line of eight shorts. */
public final class Lift53 {
    private static final int CELLS = 8;
    private static final int LAST = CELLS - 1;

    // Outside the range of a short, so that it can't be taken for a cell's value.
    private static final int NO_SUCH_CELL = 65536;

    private final short[] line = new short[CELLS];

    public Lift53() {
    }

    public int set(int i, int v) {
        if (i < 0 || i > LAST) {
            return NO_SUCH_CELL;
        }
        line[i] = (short) v;
        return line[i];
    }

    public int analyse() {
        predict();
        update();
        return line[0];
    }

    public int synthesise() {
        undoUpdate();
        undoPredict();
        return line[0];
    }

    public int get(int i) {
        if (i < 0 || i > LAST) {
            return NO_SUCH_CELL;
        }
        return line[i];
    }

    private void predict() {
        for (int i = 1; i < CELLS; i += 2) {
            line[i] = (short) (line[i] - prediction(i));
        }
    }

    private void undoPredict() {
        for (int i = 1; i < CELLS; i += 2) {
            line[i] = (short) (line[i] + prediction(i));
        }
    }

    private void update() {
        for (int i = 0; i < CELLS; i += 2) {
            line[i] = (short) (line[i] + correction(i));
        }
    }

    private void undoUpdate() {
        for (int i = 0; i < CELLS; i += 2) {
            line[i] = (short) (line[i] - correction(i));
        }
    }

    // Both directions share the next two methods: the transform is lossless only
    // because each direction takes back exactly what the other one put in. The
    // sums stay int, since the sum of two shorts may not fit into a short.

    private int prediction(int i) {
        return (left(i) + right(i)) >> 1;
    }

    private int correction(int i) {
        return (left(i) + right(i) + 2) >> 2;
    }

    // The edges mirror onto a cell of the other parity, so that a stage never
    // reads, as a neighbour, a cell that it changes.

    private int left(int i) {
        return i > 0 ? line[i - 1] : line[1];
    }

    private int right(int i) {
        return i < LAST ? line[i + 1] : line[LAST - 1];
    }
}
