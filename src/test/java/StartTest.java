/** Promise 1: the constructor and the start. */
public final class StartTest {
    public static void main(String[] args) {
        constructorNeverThrows();
        cellsStartAsZeros();
        laterObjectsStartAsZeros();
        Checks.end();
    }

    // That it takes no arguments is seen here by the compiler, and by FaceTest.
    private static void constructorNeverThrows() {
        Checks.sentence("Lift53() takes no arguments and never throws.");
        for (int n = 0; n < 100000; n++) {
            Checks.doesNotThrow("new Lift53()", Lift53::new);
        }
    }

    private static void cellsStartAsZeros() {
        Checks.sentence("Just after construction all 8 cells, line[0] to line[7], are zero.");
        for (int i = 0; i < Checks.CELLS; i++) {
            Checks.dueGet(new Lift53(), i, 0);
        }
        Checks.dueAnalyse(new Lift53(), 0);
        Checks.dueSynthesise(new Lift53(), 0);
    }

    private static void laterObjectsStartAsZeros() {
        Checks.sentence("Just after construction all 8 cells, line[0] to line[7], are zero. (once others are filled)");
        Lift53 older = Checks.holding(1, 2, 3, 4, 5, 6, 7, 8);
        Lift53 newer = new Lift53();
        Checks.dueLine("object made after another was filled:", newer, 0, 0, 0, 0, 0, 0, 0, 0);
        newer.set(3, 99);
        newer.analyse();
        Checks.dueLine("older object:", older, 1, 2, 3, 4, 5, 6, 7, 8);
    }
}
