/** All that calls can tell of an object, as text. Taking it uses the object up. */
final class Portrait {
    // Its lowest bits differ by how many of them an item has.
    private static final long BY_SORT = 0x123456789181L;
    private static final int[] PLACES = {0, 1, 2, 3, 4, 5, 59, 60};

    private final Run run;
    private final StringBuilder text = new StringBuilder();

    private Portrait(Run run) {
        this.run = run;
    }

    static String of(Run run) {
        Portrait p = new Portrait(run);
        p.now();
        p.seenAndTold();
        p.tapes();
        p.rows();
        p.theText();
        p.add("undo");
        p.now();
        p.rows();
        return p.text.toString();
    }

    private long add(String name, Object... args) {
        long answer = run.call(name, args);
        text.append(name);
        for (Object arg : args) {
            text.append(' ').append(arg);
        }
        text.append(" = ").append(answer).append('\n');
        return answer;
    }

    private void now() {
        for (int what = 0; what <= 6; what++) {
            add("count", what);
        }
        for (int what = 0; what <= 5; what++) {
            add("told", what);
        }
        for (int p = 0; p < run.call("count", 0); p++) {
            for (int what = 0; what <= 7; what++) {
                add("of", p, what);
            }
        }
        add("looked");
        add("gone", 0);
        add("gone", 1);
    }

    private void seenAndTold() {
        for (int p = 0; p < run.call("count", 0); p++) {
            add("was", p, 0);
            add("can", p, 0);
        }
        for (int i = 0; i < run.call("count", 6); i++) {
            add("trace", i);
        }
    }

    private void tapes() {
        for (int tape = 0; tape < 6; tape++) {
            for (int place : PLACES) {
                add("read", tape, place);
            }
            add("item", tape, 0, BY_SORT);
            add("read", tape, 0);
        }
    }

    private void rows() {
        for (int p = 0; p < run.call("count", 0); p++) {
            if (run.call("of", p, 0) == 6) {
                for (int part = 0; part < 4; part++) {
                    add("row", p, part, 0);
                }
            }
        }
    }

    private void theText() {
        add("town");
        add("told", 1);
        add("told", 2);
        add("count", 5);
    }
}
