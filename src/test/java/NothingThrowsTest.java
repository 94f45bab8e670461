/**
 * The last sentence under "What it is". It stands in a class of its own, since
 * a call that throws ends every other test before it could tell the sentence.
 * TestGuard sees to it that a call which does not return is told too.
 */
public final class NothingThrowsTest {
    public static void main(String[] args) {
        Checks.sentence("Nothing here ever throws, and every call returns, "
            + "for any arguments and in any state.");
        noIndexThrows();
        noStateThrows();
        Checks.end();
    }

    private static void noIndexThrows() {
        for (int i : Lines.WRONG_INDEXES) {
            answersAt(i);
        }
        for (int i = 0; i < Checks.CELLS; i++) {
            answersAt(i);
        }
    }

    private static void answersAt(int i) {
        Lift53 fresh = new Lift53();
        Lift53 used = new Lift53();
        Checks.doesNotThrow("set(0, 32767)", () -> used.set(0, 32767));
        Checks.doesNotThrow("analyse()", used::analyse);
        Checks.doesNotThrow("get(" + i + ")", () -> fresh.get(i));
        Checks.doesNotThrow("get(" + i + ")", () -> used.get(i));
        for (int v : Lines.VALUES) {
            Checks.doesNotThrow("set(" + i + ", " + v + ")", () -> fresh.set(i, v));
            Checks.doesNotThrow("set(" + i + ", " + v + ")", () -> used.set(i, v));
        }
    }

    private static void noStateThrows() {
        Lines.each(cells -> {
            Lift53 analysed = Checks.holding(cells);
            Checks.doesNotThrow("analyse()", analysed::analyse);
            Checks.doesNotThrow("analyse() again", analysed::analyse);
            Lift53 synthesised = Checks.holding(cells);
            Checks.doesNotThrow("synthesise()", synthesised::synthesise);
            Checks.doesNotThrow("synthesise() again", synthesised::synthesise);
        });
    }
}
