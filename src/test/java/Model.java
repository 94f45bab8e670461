/** The two transforms as the document writes them out, cell by cell. */
final class Model {
    private Model() {
    }

    static int[] analysed(int[] before) {
        int[] a = before.clone();
        a[1] = Checks.wrap(a[1] - half(a[0] + a[2]));
        a[3] = Checks.wrap(a[3] - half(a[2] + a[4]));
        a[5] = Checks.wrap(a[5] - half(a[4] + a[6]));
        a[7] = Checks.wrap(a[7] - half(a[6] + a[6]));
        a[0] = Checks.wrap(a[0] + quarter(a[1] + a[1] + 2));
        a[2] = Checks.wrap(a[2] + quarter(a[1] + a[3] + 2));
        a[4] = Checks.wrap(a[4] + quarter(a[3] + a[5] + 2));
        a[6] = Checks.wrap(a[6] + quarter(a[5] + a[7] + 2));
        return a;
    }

    static int[] synthesised(int[] before) {
        int[] a = before.clone();
        a[0] = Checks.wrap(a[0] - quarter(a[1] + a[1] + 2));
        a[2] = Checks.wrap(a[2] - quarter(a[1] + a[3] + 2));
        a[4] = Checks.wrap(a[4] - quarter(a[3] + a[5] + 2));
        a[6] = Checks.wrap(a[6] - quarter(a[5] + a[7] + 2));
        a[1] = Checks.wrap(a[1] + half(a[0] + a[2]));
        a[3] = Checks.wrap(a[3] + half(a[2] + a[4]));
        a[5] = Checks.wrap(a[5] + half(a[4] + a[6]));
        a[7] = Checks.wrap(a[7] + half(a[6] + a[6]));
        return a;
    }

    private static int half(int sum) {
        return Math.floorDiv(sum, 2);
    }

    private static int quarter(int sum) {
        return Math.floorDiv(sum, 4);
    }
}
