import java.lang.reflect.InvocationTargetException;
import java.lang.reflect.Method;
import java.lang.reflect.Modifier;
import java.util.Arrays;
import java.util.Map;
import java.util.Random;
import java.util.TreeMap;

/** Long runs of calls, drawn from fixed seeds, on the class and on PlainPeal: every answer is the same. */
public final class AgainstPlainTest {
    private static final int RUNS = 800;
    private static final int MOST_CALLS = 512;
    private static final Map<String, Method> OURS = methods(PealOfExcuses.class);
    private static final Map<String, Method> PLAIN = methods(PlainPeal.class);
    private static final int[] ODD = {-1, -2, 6, 7, 100, -11, Integer.MAX_VALUE, Integer.MIN_VALUE};
    private static final String[] ASKED = {"prompt", "best", "when", "apart", "who", "was", "can", "odds", "mean", "until",
        "on", "gone", "looked", "judge"};

    private final Checks c;
    private final Random random;
    private final PealOfExcuses ours = new PealOfExcuses();
    private final PlainPeal plain = new PlainPeal();
    private final int run;
    private final int width;
    private int calls;
    private static final Map<String, Map<Long, Integer>> answers = new TreeMap<>();

    private AgainstPlainTest(Checks c, int run) {
        this.c = c;
        this.run = run;
        random = new Random(7919L * run + 17);
        int[] widths = {3, 12, 40, 999};
        width = widths[run % 4];
    }

    public static void main(String[] args) throws ReflectiveOperationException {
        Checks c = new Checks("AgainstPlainTest");
        for (int run = 0; run < RUNS; run++) {
            new AgainstPlainTest(c, run).go();
        }
        if (args.length > 0) {
            answers.forEach((call, all) -> System.out.println(call + " " + all));
        }
        c.end();
    }

    private static Map<String, Method> methods(Class<?> from) {
        Map<String, Method> all = new TreeMap<>();
        for (Method m : from.getDeclaredMethods()) {
            boolean own = Modifier.isPrivate(m.getModifiers()) || m.isSynthetic();
            if (!own && !Modifier.isStatic(m.getModifiers())) {
                all.put(m.getName(), m);
            }
        }
        return all;
    }

    private long call(String name, Object... args) throws ReflectiveOperationException {
        if (calls >= MOST_CALLS) {
            return 0;
        }
        calls++;
        long got;
        try {
            got = ((Number) OURS.get(name).invoke(ours, args)).longValue();
        } catch (InvocationTargetException e) {
            c.holds("run " + run + " call " + calls + " " + name + Arrays.toString(args) + " threw " + e.getCause(), false);
            return 0;
        }
        long want = ((Number) PLAIN.get(name).invoke(plain, args)).longValue();
        c.due("run " + run + " call " + calls + " " + name + Arrays.toString(args), got, want);
        answers.computeIfAbsent(name, k -> new TreeMap<>()).merge(want, 1, Integer::sum);
        return want;
    }

    private void go() throws ReflectiveOperationException {
        int first = random.nextInt(7);
        for (int p = 0; p < first; p++) {
            comes();
        }
        if (random.nextInt(8) > 0) {
            town();
        }
        while (calls < MOST_CALLS) {
            step();
        }
    }

    private int below(int n) {
        return random.nextInt(n);
    }

    private boolean seldom(int n) {
        return random.nextInt(n) == 0;
    }

    private int odd() {
        return ODD[below(ODD.length)];
    }

    private int one() {
        int size = plain.count(0);
        return seldom(15) || size == 0 ? below(3) == 0 ? below(8) : odd() : below(size);
    }

    private int anOff() {
        int[] edges = {-999, 999, -1000, 1000, -998, 998};
        return seldom(25) ? edges[below(6)] : below(2 * width + 1) - width;
    }

    private int days(int most) {
        int[] edges = {-1, 0, 1, most - 1, most, most + 1, Integer.MAX_VALUE, Integer.MIN_VALUE};
        return seldom(8) ? edges[below(8)] : seldom(2) ? below(4) : below(most + 1);
    }

    private int small(int most) {
        return seldom(12) ? seldom(2) ? most + 1 : odd() : below(most + 1);
    }

    private void comes() throws ReflectiveOperationException {
        int kind = seldom(3) ? 0 : small(6);
        int due = seldom(2) ? 10 * below(3) : small(99);
        call("person", kind, seldom(2) ? below(3) : small(9), due, anOff());
        int person = plain.count(0) - 1;
        if (person >= 0 && plain.of(person, 0) == 6) {
            for (int part = 0; part < 4 && !seldom(3); part++) {
                call("row", person, part, below(10));
            }
        }
    }

    private void step() throws ReflectiveOperationException {
        switch (below(19)) {
            case 0: comes(); break;
            case 1: people(); break;
            case 2: if (seldom(3)) { town(); } break;
            case 3: call("pass", seldom(4) ? days(60) : below(3)); break;
            case 4: see(); break;
            case 5: weeks(); break;
            case 6: books(); break;
            case 7: tapes(); break;
            case 8: acts(); break;
            case 9: image(); break;
            case 10: look(); break;
            case 11: stir(); break;
            case 12: wild(); break;
            default: ask(); break;
        }
    }

    private void people() throws ReflectiveOperationException {
        switch (below(5)) {
            case 0: call("off", one(), anOff()); break;
            case 1: call("due", one(), seldom(2) ? 10 * below(10) : small(99)); break;
            case 2: call("away", one(), seldom(2)); break;
            case 3: call("row", one(), small(3), small(9)); break;
            default: call("away", one(), false); break;
        }
    }

    /** DAYS make all agree before long; this puts them apart again, and asks what is asked of all. */
    private void stir() throws ReflectiveOperationException {
        for (int p = 0; p < plain.count(0); p++) {
            call("off", p, anOff());
            if (seldom(2)) {
                call("due", p, seldom(2) ? 10 * below(3) : below(100));
            }
        }
        call("prompt");
        call("best", one());
        call("when", one());
        int n = days(60);
        call("odds", n, 0);
        call("odds", n, 1);
        call("until", below(3));
    }

    /** Any call with any arguments: none may throw. */
    private void wild() throws ReflectiveOperationException {
        String[] names = OURS.keySet().toArray(new String[0]);
        String name = names[below(names.length)];
        Class<?>[] types = OURS.get(name).getParameterTypes();
        Object[] args = new Object[types.length];
        for (int k = 0; k < args.length; k++) {
            int any = seldom(3) ? odd() : seldom(2) ? random.nextInt() : below(7);
            args[k] = types[k] == boolean.class ? (Object) seldom(2) : types[k] == long.class ? (Object) value() : (Object) any;
        }
        call(name, args);
    }

    private void look() throws ReflectiveOperationException {
        call("told", small(5));
        call("count", small(6));
        for (int p = 0; p < 6; p++) {
            call("of", p, 3 + below(5));
        }
        call("of", one(), small(7));
        call("read", small(5), small(9));
        call("trace", small(12));
    }

    private void ask() throws ReflectiveOperationException {
        String name = ASKED[below(ASKED.length)];
        switch (name) {
            case "best": case "when": call(name, one()); break;
            case "apart": call(name, one(), one(), days(60)); break;
            case "who": call(name, seldom(2) ? small(99) : ringing(), days(40)); break;
            case "was": case "can": call(name, one(), small(1)); break;
            case "odds": case "mean": call(name, days(60), small(1)); break;
            case "until": call(name, small(2)); break;
            case "on": call(name, days(60), seldom(2) ? small(1) : 10 + one()); break;
            case "gone": call(name, small(1)); break;
            case "judge": call(name, small(5), small(6)); break;
            default: call(name); break;
        }
    }

    private int ringing() {
        int size = plain.count(0);
        return size == 0 ? 5 : plain.of(below(size), 7);
    }

    private void see() throws ReflectiveOperationException {
        if (seldom(5)) {
            call("see", -1, anOff(), days(20));
            return;
        }
        int person = one();
        int n = days(20);
        int off = plain.on(n, 10 + person);
        call("see", person, seldom(4) ? anOff() : off, n);
        call(seldom(2) ? "was" : "can", one(), below(2));
    }

    private void weeks() throws ReflectiveOperationException {
        if (seldom(8)) {
            call("week", -1, one());
        }
        call("week", seldom(2) ? 0 : small(3), one());
        call("gone", small(1));
    }

    private void books() throws ReflectiveOperationException {
        if (seldom(6)) {
            call("book", -1, anOff());
        }
        int person = one();
        call("book", person, seldom(5) ? anOff() : plain.of(person, 3));
        call("looked");
    }

    private long value() {
        long[] edges = {0, 1, -1, 127, 128, 255, 32767, 32768, 65536, 2147483648L, 9999999999L, Long.MIN_VALUE};
        return seldom(2) ? edges[below(edges.length)] : random.nextLong() >> below(64);
    }

    private void tapes() throws ReflectiveOperationException {
        int tape = seldom(3) ? small(5) : below(2);
        switch (below(4)) {
            case 0:
                call("tape", tape, seldom(2) ? 1 : seldom(4) ? odd() : below(6) - 1, seldom(2) ? below(9) : days(60));
                break;
            case 1:
                call("item", tape, small(8), value());
                call("read", tape, small(8));
                break;
            case 2:
                call("shift", tape, small(4), seldom(2) ? tape : small(5), small(4), small(5));
                for (int k = 0; k < 6; k++) {
                    call("read", tape, k);
                }
                break;
            default:
                judged(tape);
                break;
        }
    }

    private void judged(int tape) throws ReflectiveOperationException {
        int from = small(3);
        for (int p = 0; p < plain.count(0); p++) {
            call("item", tape, from + p, seldom(12) ? value() : plain.of(p, 3));
        }
        call("judge", tape, from);
    }

    private void acts() throws ReflectiveOperationException {
        call("act", one(), small(2), seldom(3) ? random.nextInt() : below(40) - 20);
        for (int k = 0; k < 7; k++) {
            call("trace", k);
        }
        call("trace", small(20));
        call("count", 6);
        call("taken", one(), small(6));
    }

    private void image() throws ReflectiveOperationException {
        call(seldom(2) ? "image" : "undo");
        call("of", one(), small(4));
        call("told", small(5));
    }

    private void town() throws ReflectiveOperationException {
        String text = aTown();
        if (seldom(6)) {
            text = spoilt(text);
        }
        for (int k = 0; k < text.length() && k < 101; k++) {
            call("feed", (int) text.charAt(k));
        }
        if (seldom(9)) {
            call("feed", small(127));
        }
        call("town");
        call("told", 1);
        call("told", 2);
    }

    private String aTown() {
        StringBuilder text = new StringBuilder();
        int clauses = seldom(12) ? 9 + below(3) : 1 + below(4);
        for (int k = 0; k < clauses; k++) {
            text.append(k == 0 ? "" : ";");
            int n = seldom(6) ? below(100) : below(10);
            switch (below(7)) {
                case 0: text.append("fast ").append(seldom(3) ? n : below(3)); break;
                case 1: text.append("loud ").append(n); break;
                case 2: text.append("haste ").append(n).append(' ').append(either(0)); break;
                default: text.append("lag ").append(n).append(' ').append(either(0)); break;
            }
        }
        return text.toString();
    }

    private String either(int within) {
        String e = both(within);
        return seldom(3) ? e + "|" + either(within) : e;
    }

    private String both(int within) {
        String t = part(within);
        return seldom(3) ? t + "&" + both(within) : t;
    }

    private String part(int within) {
        int most = seldom(40) ? 6 : 4;
        if (within < most && seldom(6)) {
            return "!" + part(within + 1);
        }
        if (within < most && seldom(6)) {
            return "(" + either(within + 1) + ")";
        }
        char letter = "pkvuod".charAt(below(6));
        int number = letter == 'o' && seldom(2) ? below(100) : below(letter == 'p' ? 7 : 10);
        return "" + letter + "<=>".charAt(below(3)) + (seldom(9) && number < 10 ? "0" : "") + number;
    }

    private String spoilt(String text) {
        String signs = "laghstefoud 0123456789;|&!()<=>pkvuodx";
        StringBuilder s = new StringBuilder(text);
        int at = below(s.length());
        switch (below(4)) {
            case 0: s.setCharAt(at, signs.charAt(below(signs.length()))); break;
            case 1: s.insert(at, signs.charAt(below(signs.length()))); break;
            case 2: s.deleteCharAt(at); break;
            default: s.setLength(at); break;
        }
        return s.toString();
    }
}
