import java.lang.reflect.InvocationTargetException;
import java.lang.reflect.Method;

/**
 * Runs the main method of a test and lets it take so many seconds: a call of the class that does not end is a fault
 * like any other, and without this the run of all tests would not end either.
 */
public final class Within {
    private Within() {
    }

    /** The seconds, then the test's name. */
    public static void main(String[] args) throws Throwable {
        int seconds = Integer.parseInt(args[0]);
        String test = args[1];
        Thread running = Thread.currentThread();
        Thread watch = new Thread(() -> stopBehind(seconds, test, running));
        watch.setDaemon(true);
        watch.start();
        Method main = Class.forName(test).getMethod("main", String[].class);
        try {
            main.invoke(null, (Object) new String[0]);
        } catch (InvocationTargetException e) {
            throw e.getCause();
        }
    }

    private static void stopBehind(int seconds, String test, Thread running) {
        try {
            Thread.sleep(seconds * 1000L);
        } catch (InterruptedException e) {
            return;
        }
        System.out.println(test + ": has not ended in " + seconds + " seconds; it stands in");
        for (StackTraceElement call : running.getStackTrace()) {
            System.out.println("  " + call);
        }
        System.out.flush();
        // Not exit: that would wait for hooks of a machine that is busy without end.
        Runtime.getRuntime().halt(1);
    }
}
