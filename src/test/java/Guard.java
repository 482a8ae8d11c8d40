import java.lang.reflect.Method;

/** Runs the main method of a test; ends with exit code 1 if it has not ended after so many seconds. */
public final class Guard {
    private Guard() {
    }

    public static void main(String[] args) throws Exception {
        long seconds = Long.parseLong(args[0]);
        Method test = Class.forName(args[1]).getMethod("main", String[].class);
        Thread watch = new Thread(() -> stopAfter(seconds, args[1]));
        // a test that ends sooner does not wait for it
        watch.setDaemon(true);
        watch.start();
        test.invoke(null, (Object) new String[0]);
    }

    private static void stopAfter(long seconds, String name) {
        try {
            Thread.sleep(1000 * seconds);
        } catch (InterruptedException e) {
            return;
        }
        System.out.println(name + " has not ended after " + seconds + " seconds");
        // exit() could wait for a test that never ends
        Runtime.getRuntime().halt(1);
    }
}
