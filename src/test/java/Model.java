/** The two transforms as the document writes them out, cell by cell. */
final class Model {
    private Model() {
    }

    static int[] analysed(int[] before) {
        int[] a = before.clone();
        a[1] = wrap(a[1] - half(a[0] + a[2]));
        a[3] = wrap(a[3] - half(a[2] + a[4]));
        a[5] = wrap(a[5] - half(a[4] + a[6]));
        a[7] = wrap(a[7] - half(a[6] + a[6]));
        a[0] = wrap(a[0] + quarter(a[1] + a[1] + 2));
        a[2] = wrap(a[2] + quarter(a[1] + a[3] + 2));
        a[4] = wrap(a[4] + quarter(a[3] + a[5] + 2));
        a[6] = wrap(a[6] + quarter(a[5] + a[7] + 2));
        return a;
    }

    static int[] synthesised(int[] before) {
        int[] a = before.clone();
        a[0] = wrap(a[0] - quarter(a[1] + a[1] + 2));
        a[2] = wrap(a[2] - quarter(a[1] + a[3] + 2));
        a[4] = wrap(a[4] - quarter(a[3] + a[5] + 2));
        a[6] = wrap(a[6] - quarter(a[5] + a[7] + 2));
        a[1] = wrap(a[1] + half(a[0] + a[2]));
        a[3] = wrap(a[3] + half(a[2] + a[4]));
        a[5] = wrap(a[5] + half(a[4] + a[6]));
        a[7] = wrap(a[7] + half(a[6] + a[6]));
        return a;
    }

    // Wrap and shifts are written without a cast and without >>, to be another
    // reckoning than the program's.

    static int wrap(int value) {
        return Math.floorMod(value + 32768, 65536) - 32768;
    }

    private static int half(int sum) {
        return Math.floorDiv(sum, 2);
    }

    private static int quarter(int sum) {
        return Math.floorDiv(sum, 4);
    }
}
