/** Promise 1: the constructor and the start. */
public final class StartTest {
    public static void main(String[] args) {
        startsWithZeros();
        eachObjectHasItsOwnLine();
        Checks.end();
    }

    private static void startsWithZeros() {
        Checks.dueLine("new object", new Lift53(), 0, 0, 0, 0, 0, 0, 0, 0);
    }

    private static void eachObjectHasItsOwnLine() {
        Lift53 older = Checks.holding(1, 2, 3, 4, 5, 6, 7, 8);
        Lift53 newer = new Lift53();
        Checks.dueLine("object made after another was filled", newer, 0, 0, 0, 0, 0, 0, 0, 0);
        newer.set(3, 99);
        newer.analyse();
        Checks.dueLine("older object", older, 1, 2, 3, 4, 5, 6, 7, 8);
    }
}
