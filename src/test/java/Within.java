import java.lang.reflect.Method;

/**
 * Runs a test's main method, and fails it when its time is over: LANGUAGE.md, rule 7, says that no call may
 * fail to end, and a call that does must not keep .ci/run from ending. Arguments: seconds, and the class.
 */
final class Within {
    private Within() {
    }

    public static void main(String[] args) throws Exception {
        watch(Long.parseLong(args[0]), args[1]);
        Method test = Class.forName(args[1]).getDeclaredMethod("main", String[].class);
        test.setAccessible(true);
        test.invoke(null, (Object) new String[0]);
    }

    private static void watch(long seconds, String test) {
        Thread clock = new Thread(() -> {
            try {
                Thread.sleep(1000 * seconds);
            } catch (InterruptedException e) {
                return;
            }
            System.out.println(test + " did not end within " + seconds + " seconds");
            System.out.flush();
            Runtime.getRuntime().halt(1);
        });
        clock.setDaemon(true);
        clock.start();
    }
}
