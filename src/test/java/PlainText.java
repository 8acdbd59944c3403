import java.util.ArrayList;
import java.util.List;

/** TOWNS read another way: the FAULT sign by sign, the rest by cutting the text apart. */
final class PlainText {
    private static final String[] WORDS = {"lag", "haste", "fast", "loud"};

    private PlainText() {
    }

    /** The place of the first sign with which no TOWN begins so; -1: the text is a TOWN. */
    static int fault(String text) {
        Machine machine = new Machine();
        for (int k = 0; k < text.length(); k++) {
            if (!machine.goes(text.charAt(k))) {
                return k;
            }
        }
        return machine.mayEnd() ? -1 : text.length();
    }

    private static final class Machine {
        private enum At { WORD, BLANK, N, N2, BEHIND_N, OPERAND, SIGN, NUMBER, NUMBER2, BEHIND }

        private At at = At.WORD;
        private String word = "";
        private int clauses = 1;
        // What is open: ( and !, outermost first.
        private String open = "";

        boolean goes(char c) {
            switch (at) {
                case WORD: return word(c);
                case BLANK: return to(c == ' ', At.N);
                case N: return to(digit(c), At.N2);
                case N2: return digit(c) ? to(true, At.BEHIND_N) : behindN(c);
                case BEHIND_N: return behindN(c);
                case OPERAND: return operand(c);
                case SIGN: return to("<=>".indexOf(c) >= 0, At.NUMBER);
                case NUMBER: return to(digit(c), At.NUMBER2);
                case NUMBER2: return digit(c) ? to(true, At.BEHIND) : behind(c);
                default: return behind(c);
            }
        }

        boolean mayEnd() {
            boolean bare = word.equals("fast") || word.equals("loud");
            return bare && (at == At.N2 || at == At.BEHIND_N)
                || open.replace("!", "").isEmpty() && (at == At.NUMBER2 || at == At.BEHIND);
        }

        private boolean to(boolean good, At next) {
            at = good ? next : at;
            return good;
        }

        private static boolean digit(char c) {
            return c >= '0' && c <= '9';
        }

        private boolean word(char c) {
            word += c;
            for (String w : WORDS) {
                if (w.equals(word)) {
                    at = At.BLANK;
                    return true;
                }
                if (w.startsWith(word)) {
                    return true;
                }
            }
            return false;
        }

        private boolean behindN(char c) {
            if (word.equals("lag") || word.equals("haste")) {
                open = "";
                return to(c == ' ', At.OPERAND);
            }
            return next(c);
        }

        private boolean next(char c) {
            if (c != ';' || clauses == 10) {
                return false;
            }
            clauses++;
            word = "";
            at = At.WORD;
            return true;
        }

        private boolean operand(char c) {
            if (c == '(' || c == '!') {
                open += c;
                return open.length() <= 4;
            }
            return to("pkvuod".indexOf(c) >= 0, At.SIGN);
        }

        private void dropNots() {
            while (open.endsWith("!")) {
                open = open.substring(0, open.length() - 1);
            }
        }

        private boolean behind(char c) {
            dropNots();
            if (c == '&' || c == '|') {
                return to(true, At.OPERAND);
            }
            if (c == ')' && !open.isEmpty()) {
                open = open.substring(0, open.length() - 1);
                dropNots();
                return to(true, At.BEHIND);
            }
            return open.isEmpty() && next(c);
        }
    }

    /** The CLAUSES of a text that is a TOWN. */
    static List<PlainPeal.Clause> town(String text) {
        List<PlainPeal.Clause> town = new ArrayList<>();
        for (String clause : text.split(";")) {
            String[] parts = clause.split(" ");
            town.add(new PlainPeal.Clause(parts[0], Integer.parseInt(parts[1]), parts.length > 2 ? either(parts[2]) : null));
        }
        return town;
    }

    /** The place of the first sign of this sort that stands in no bracket; -1: none. */
    private static int bare(String e, char sign) {
        int depth = 0;
        for (int k = 0; k < e.length(); k++) {
            depth += e.charAt(k) == '(' ? 1 : e.charAt(k) == ')' ? -1 : 0;
            if (depth == 0 && e.charAt(k) == sign) {
                return k;
            }
        }
        return -1;
    }

    private static PlainPeal.Test either(String e) {
        int or = bare(e, '|');
        if (or < 0) {
            return both(e);
        }
        PlainPeal.Test first = both(e.substring(0, or));
        PlainPeal.Test rest = either(e.substring(or + 1));
        return (w, p) -> first.holds(w, p) || rest.holds(w, p);
    }

    private static PlainPeal.Test both(String e) {
        int and = bare(e, '&');
        if (and < 0) {
            return part(e);
        }
        PlainPeal.Test first = part(e.substring(0, and));
        PlainPeal.Test rest = both(e.substring(and + 1));
        return (w, p) -> first.holds(w, p) && rest.holds(w, p);
    }

    private static PlainPeal.Test part(String e) {
        if (e.charAt(0) == '!') {
            PlainPeal.Test inner = part(e.substring(1));
            return (w, p) -> !inner.holds(w, p);
        }
        if (e.charAt(0) == '(') {
            return either(e.substring(1, e.length() - 1));
        }
        char letter = e.charAt(0);
        char sign = e.charAt(1);
        int n = Integer.parseInt(e.substring(2));
        return (w, p) -> {
            PlainPeal.One o = w.all.get(p);
            int is = letter == 'p' ? p : letter == 'k' ? o.kind : letter == 'v' ? o.v : letter == 'u' ? o.due / 10
                : letter == 'o' ? Math.min(99, Math.abs(o.off)) : w.day % 10;
            return sign == '<' ? is < n : sign == '=' ? is == n : is > n;
        };
    }
}
