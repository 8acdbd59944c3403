/** What the project's own tests share: counting answers that are not as due, and feeding texts. */
final class Checks {
    private static final long LONGEST_MILLIS = 20L * 60 * 1000;

    private final String name;
    private int made;
    private int wrong;

    Checks(String name) {
        this.name = name;
        stopWhatHangs();
    }

    void due(String call, long got, long want) {
        made++;
        if (got != want) {
            wrong++;
            if (wrong <= 50) {
                System.out.println(name + ": " + call + " answered " + got + ", due is " + want);
            }
        }
    }

    void holds(String what, boolean is) {
        due(what, is ? 1 : 0, 1);
    }

    void end() {
        System.out.println(name + ": " + made + " checks, " + wrong + " wrong");
        System.exit(wrong == 0 && made > 0 ? 0 : 1);
    }

    /** Feeds a text to the last sign of it; what is asked of town() is the test's. */
    static void feed(PealOfExcuses peal, String text) {
        for (int k = 0; k < text.length(); k++) {
            peal.feed(text.charAt(k));
        }
    }

    static int town(PealOfExcuses peal, String text) {
        feed(peal, text);
        return peal.town();
    }

    // A call that fails to end must fail the test rather than hold up CI.
    private void stopWhatHangs() {
        Thread watch = new Thread(() -> {
            try {
                Thread.sleep(LONGEST_MILLIS);
            } catch (InterruptedException e) {
                return;
            }
            System.out.println(name + ": did not end");
            Runtime.getRuntime().halt(1);
        });
        watch.setDaemon(true);
        watch.start();
    }
}
