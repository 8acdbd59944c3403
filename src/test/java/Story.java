import java.util.HashMap;
import java.util.Map;

/**
 * Runs of calls told line by line, each on a new object, under the sentence of the document that it tests.
 *
 * <p>A line is a call with its arguments, and mostly the answer that is due: "person 0 3 30 5 = 0". "60x " ahead of it:
 * sixty times. "text fast 1;loud 2" feeds those signs. "! " ahead of it: beside its answer, all that can be told of the
 * object must be as if the call had not been made.
 */
final class Story {
    private static final Map<String, Long> NUMBERS = numbers();

    private final Checks c;

    Story(Checks c) {
        this.c = c;
    }

    private static Map<String, Long> numbers() {
        Map<String, Long> all = new HashMap<>();
        all.put("NONE", -1L);
        all.put("BAD", -2L);
        all.put("STATE", -3L);
        all.put("FULL", -4L);
        all.put("NOTHING", -11L);
        all.put("CAST", -12L);
        all.put("PLACE", -13L);
        all.put("SIZE", -14L);
        all.put("NO", Long.MIN_VALUE);
        all.put("MIN", (long) Integer.MIN_VALUE);
        all.put("MAX", (long) Integer.MAX_VALUE);
        all.put("LEAST", Long.MIN_VALUE);
        all.put("MOST", Long.MAX_VALUE);
        return all;
    }

    void tell(String sentence, String... lines) {
        Run run = new Run();
        for (int k = 0; k < lines.length; k++) {
            Line line = new Line(lines[k]);
            line.play(run, sentence, c);
            if (line.unmoved) {
                String before = Portrait.of(past(lines, k));
                String behind = Portrait.of(past(lines, k + 1));
                String what = sentence + ": [" + line.call + "] changes nothing; " + difference(before, behind);
                c.holds(what, before.equals(behind));
            }
        }
    }

    /** The same lines behind others. */
    void tellBehind(String sentence, String[] past, String... lines) {
        String[] all = new String[past.length + lines.length];
        System.arraycopy(past, 0, all, 0, past.length);
        System.arraycopy(lines, 0, all, past.length, lines.length);
        tell(sentence, all);
    }

    private static Run past(String[] lines, int n) {
        Run run = new Run();
        for (int k = 0; k < n; k++) {
            new Line(lines[k]).play(run, "", null);
        }
        return run;
    }

    private static String difference(String before, String behind) {
        String[] one = before.split("\n");
        String[] other = behind.split("\n");
        for (int k = 0; k < Math.min(one.length, other.length); k++) {
            if (!one[k].equals(other[k])) {
                return "but [" + one[k] + "] became [" + other[k] + "]";
            }
        }
        return "";
    }

    private static final class Line {
        final boolean unmoved;
        final String call;
        private final int times;
        private final Long due;

        Line(String told) {
            unmoved = told.startsWith("! ");
            String rest = unmoved ? told.substring(2) : told;
            boolean many = rest.matches("\\d+x .*");
            times = many ? Integer.parseInt(rest.substring(0, rest.indexOf('x'))) : 1;
            rest = many ? rest.substring(rest.indexOf(' ') + 1) : rest;
            int at = rest.startsWith("text ") ? -1 : rest.indexOf(" = ");
            due = at < 0 ? null : number(rest.substring(at + 3));
            call = at < 0 ? rest : rest.substring(0, at);
        }

        /** Without checks: nothing is held against what is due. */
        void play(Run run, String sentence, Checks checks) {
            for (int k = 0; k < times; k++) {
                if (call.startsWith("text ")) {
                    for (char sign : call.substring(5).toCharArray()) {
                        run.call("feed", (int) sign);
                    }
                    continue;
                }
                String[] words = call.split(" ");
                long got = run.call(words[0], arguments(words));
                if (due != null && checks != null) {
                    checks.due(sentence + ": [" + call + "]", got, due);
                }
            }
        }

        private static long number(String word) {
            return NUMBERS.containsKey(word) ? NUMBERS.get(word) : Long.parseLong(word);
        }

        private static Object[] arguments(String[] words) {
            Class<?>[] types = Run.types(words[0]);
            if (types.length != words.length - 1) {
                throw new IllegalArgumentException("another number of arguments: " + String.join(" ", words));
            }
            Object[] args = new Object[types.length];
            for (int k = 0; k < types.length; k++) {
                String word = words[k + 1];
                if (types[k] == boolean.class) {
                    args[k] = word.equals("true");
                } else if (types[k] == long.class) {
                    args[k] = number(word);
                } else {
                    args[k] = (int) number(word);
                }
            }
            return args;
        }
    }
}
