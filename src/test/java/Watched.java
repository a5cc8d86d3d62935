import java.lang.reflect.InvocationTargetException;

/** Runs the main method of the test that is named; a test in which some call fails to end is failed, not waited for. */
public final class Watched {
    private static final long LIMIT_SECONDS = 120;

    private Watched() {
    }

    public static void main(String[] args) throws Throwable {
        Thread watch = new Thread(() -> watches(args[0]));
        watch.setDaemon(true);
        watch.start();
        try {
            Class.forName(args[0]).getMethod("main", String[].class).invoke(null, (Object) new String[0]);
        } catch (InvocationTargetException e) {
            throw e.getCause();
        }
    }

    private static void watches(String name) {
        try {
            Thread.sleep(1000 * LIMIT_SECONDS);
        } catch (InterruptedException e) {
            return;
        }
        System.out.println(name + " has not ended in " + LIMIT_SECONDS + " seconds");
        System.out.flush();
        Runtime.getRuntime().halt(1);
    }
}
