/** Ends a test whose program does not come to an end, so that it fails and nobody waits for it. */
final class Watch {
    private static final long MOST_MILLISECONDS = 300_000;

    private Watch() {
    }

    static void start(String name) {
        Thread watch = new Thread(() -> endLater(name));
        watch.setDaemon(true);
        watch.start();
    }

    private static void endLater(String name) {
        try {
            Thread.sleep(MOST_MILLISECONDS);
        } catch (InterruptedException e) {
            return;
        }
        System.out.println(name + ": does not come to an end");
        Runtime.getRuntime().halt(1);
    }
}
