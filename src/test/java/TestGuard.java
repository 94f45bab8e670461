/** Runs the main method of the test named, and fails it if a call does not return. */
public final class TestGuard {
    // Far above what a test needs, even on a slow machine.
    private static final long LONGEST_MILLIS = 300_000;

    private TestGuard() {
    }

    public static void main(String[] args) throws Exception {
        Thread guard = new Thread(() -> failWhenLate(args[0]));
        guard.setDaemon(true);
        guard.start();
        Class.forName(args[0]).getMethod("main", String[].class).invoke(null, (Object) new String[0]);
    }

    private static void failWhenLate(String test) {
        try {
            Thread.sleep(LONGEST_MILLIS);
        } catch (InterruptedException nobodyInterrupts) {
            return;
        }
        System.out.println("broken: every call returns");
        System.out.println("  " + test + " has not ended after " + LONGEST_MILLIS / 1000 + " seconds");
        Runtime.getRuntime().halt(1);
    }
}
