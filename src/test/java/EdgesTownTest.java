/** Sentences that name an edge: promise 9, and what the Terms say of a TOWN, its TESTS and its FAULT. */
public final class EdgesTownTest {
    private static final Checks c = new Checks("EdgesTownTest");
    private static final Story s = new Story(c);
    private static final String DIGITS = "0123456789", LETTERS = "pkvuod", BEGINS = LETTERS + "!(";
    private static final String NINE = "fast 1;fast 1;fast 1;fast 1;fast 1;fast 1;fast 1;fast 1;fast 1";

    public static void main(String[] args) {
        whatMayFollow();
        tooEarly();
        clauses();
        depth();
        fault();
        newest();
        full();
        letters();
        numbers();
        days();
        joined();
        c.end();
    }

    /** Behind the start, just the signs of ends make a TOWN of it, and just those of goes may follow otherwise. */
    private static void follow(String start, String ends, String goes) {
        for (char sign = 0; sign <= 127; sign++) {
            PealOfExcuses x = new PealOfExcuses();
            int fault = goes.indexOf(sign) >= 0 ? start.length() + 1 : start.length();
            int due = ends.indexOf(sign) >= 0 ? 0 : -10 - fault;
            c.due("sign " + (int) sign + " behind [" + start + "]", Checks.town(x, start + sign), due);
            c.due("TOWNS", x.count(1), due == 0 ? 1 : 0);
            c.due("THE TEXT is empty then", x.count(5), 0);
        }
    }

    private static void whatMayFollow() {
        String[] words = {"lag", "haste", "fast", "loud"};
        follow("", "", "lhf");
        follow("l", "", "ao");
        for (String word : words) {
            for (int k = 2; k < word.length(); k++) {
                follow(word.substring(0, k), "", word.substring(k, k + 1));
            }
            follow(word, "", " ");
        }
        follow("h", "", "a");
        follow("f", "", "a");
        // n 1 or 2 digits, one blank ahead of each part behind the word.
        follow("lag ", "", DIGITS);
        follow("lag 1", "", DIGITS + " ");
        follow("haste 12", "", " ");
        follow("fast ", DIGITS, "");
        follow("fast 1", DIGITS, ";");
        follow("fast 12", "", ";");
        follow("loud ", DIGITS, "");
        follow("loud 0", DIGITS, ";");
        follow("loud 99", "", ";");
        follow("fast 1;", "", "lhf");
        // E, T, F
        follow("lag 1 ", "", BEGINS);
        follow("haste 1 ", "", BEGINS);
        follow("lag 1 p=1&", "", BEGINS);
        follow("lag 1 p=1|", "", BEGINS);
        follow("lag 1 !", "", BEGINS);
        follow("lag 1 (", "", BEGINS);
        follow("lag 1 p=1&p=1", DIGITS, "&|;");
        follow("lag 1 p=1|p=12", "", "&|;");
        follow("lag 1 (p=1", ")", DIGITS + "&|");
        follow("lag 1 (p=12", ")", "&|");
        follow("lag 1 (p=12)", "", "&|;");
        follow("lag 1 ((p=12)", ")", "&|");
        follow("lag 1 !(p=12)", "", "&|;");
        follow("lag 1 (!p=12", ")", "&|");
        // a TEST: a letter, < or = or >, a number of 1 or 2 digits
        for (int k = 0; k < LETTERS.length(); k++) {
            String letter = LETTERS.substring(k, k + 1);
            follow("lag 1 " + letter, "", "<=>");
            follow("lag 1 " + letter + "<", DIGITS, "");
            follow("lag 1 " + letter + "=", DIGITS, "");
            follow("lag 1 " + letter + ">", DIGITS, "");
            follow("lag 1 " + letter + "=1", DIGITS, "&|;");
            follow("lag 1 " + letter + "=12", "", "&|;");
        }
    }

    /** Each start of a text, on a new object and behind the whole text; where it is a TOWN, stands in lengths. */
    private static void starts(String text, int... lengths) {
        for (int n = 0; n <= text.length(); n++) {
            boolean is = false;
            for (int length : lengths) {
                is |= length == n;
            }
            String start = text.substring(0, n);
            c.due("[" + start + "]", Checks.town(new PealOfExcuses(), start), is ? 0 : -10 - n);
            PealOfExcuses x = new PealOfExcuses();
            c.due("[" + text + "]", Checks.town(x, text), 0);
            c.due("[" + start + "] behind it", Checks.town(x, start), is ? 1 : -10 - n);
            if (n < text.length()) {
                String rest = text.substring(n + 1);
                c.due("no sign there", Checks.town(new PealOfExcuses(), start + (char) 0 + rest), -10 - n);
                c.due("no sign there", Checks.town(new PealOfExcuses(), start + (char) 127 + rest), -10 - n);
            }
        }
    }

    private static void tooEarly() {
        starts("fast 12;loud 3", 6, 7, 14);
        starts("lag 12 p=34", 10, 11);
        starts("haste 5 !(k<6&v>0)|u=09;fast 0", 18, 22, 23, 30);
        starts("lag 1 ((p=1)|!!o>99)&d=0;haste 02 p=1", 20, 24, 37);
        starts("loud 7;lag 1 ((((v=1))))", 6, 24);
    }

    private static void clauses() {
        s.tell("CLAUSES: 1 to 10", "town = -10", "count 1 = 0", "text fast 1", "town = 0", "text " + NINE, "town = 1",
            "text " + NINE + ";fast 7", "town = 2", "told 1 = 7");
        follow(NINE, DIGITS, ";");
        follow(NINE + ";", "", "lhf");
        follow(NINE + ";fast 1", DIGITS, "");
        follow(NINE + ";fast 12", "", "");
        follow(NINE + ";lag 1 p=1", DIGITS, "&|");
        follow(NINE + ";lag 1 p=12", "", "&|");
        s.tell("with ; between", "text ;fast 1", "town = -10", "text fast 1;", "town = -17", "text fast 1;;fast 1",
            "town = -17", "text fast 1 fast 1", "town = -16", "count 1 = 0");
        s.tell("the tenth is one of all", "person 0 0 0 0 = 0", "text " + NINE + ";lag 7 p=0", "town = 0", "of 0 5 = 7",
            "text lag 8 p=0;" + NINE.substring(7) + ";loud 9", "town = 1", "of 0 5 = 8", "told 2 = 9");
    }

    private static void depth() {
        String[] four = {"!!!!", "((((", "!(!(", "(!(!", "!!((", "((!!", "(((!", "!((("};
        for (String open : four) {
            follow("lag 1 " + open, "", LETTERS);
            follow("lag 1 " + open.substring(0, 3), "", BEGINS);
            // Behind what is closed there are none around again.
            String closed = "lag 1 " + open + "p=12" + open.replace("!", "").replace('(', ')');
            follow(closed, "", "&|;");
            follow(closed + "&", "", BEGINS);
            follow(closed + "|" + open, "", LETTERS);
        }
        follow("lag 1 (((!p=1&", "", BEGINS);
        follow("lag 1 (((!p=1&!", "", LETTERS);
        follow("lag 1 ((((p=1&", "", LETTERS);
        follow("lag 1 ((((p=1)|", "", BEGINS);
        follow("lag 1 ((((p=1)|(", "", LETTERS);
        follow("lag 1 !!!p=1&!!!", "", BEGINS);
        follow("lag 1 !!!!p=1;lag 1 !!!", "", BEGINS);
        follow("lag 1 !!!!p=1;lag 1 !!!!", "", LETTERS);
    }

    private static void fault() {
        String[] held = {"text fast 4;loud 6", "town = 0"};
        s.tellBehind("9: -10 less the FAULT, the one that held holds", held, "text fast 7;loud 9;x", "town = -24",
            "told 1 = 4", "told 2 = 6", "count 1 = 1", "count 5 = 0");
        s.tellBehind("9: a FAULT takes no number", held, "text x", "town = -10", "! town = -10", "text loud 9",
            "town = 1", "told 1 = 0", "told 2 = 9");
        s.tell("9: of a FAULT nothing is left", "person 0 0 0 0 = 0", "text lag 9 p=0;fast 3;loud 9;haste 4 k=0;x",
            "town = -46", "text lag 1 p=1", "town = 0", "of 0 5 = 0", "told 1 = 0", "told 2 = 5",
            "text lag 8 p=0|p=0&p=0", "town = 1", "text lag 8 p=0|p=0&", "town = -24", "text lag 7 p=1|p=0", "town = 2",
            "of 0 5 = 7");
        String many = "text lag 9 p=0|p=0|p=0|p=0|p=0|p=0|p=0|p=0|p=0|p=0|p=0|p=0|p=0|p=0|p=0|p=0|p=0|p=0|p=0|p=0;x";
        s.tell("9: of many a FAULT nothing is left", "person 0 0 0 0 = 0", many, "town = -96", many, "town = -96", many,
            "town = -96", "text lag 2 p=0|p=1&p=2;haste 1 !p=1&!(v=3|v=4)", "town = 0", "of 0 5 = 1");
        s.tell("9: a FAULT, and none held", "person 0 0 0 0 = 0", "text lag 9 p=0;x", "town = -20", "of 0 5 = 0",
            "told 1 = 0", "told 2 = 5", "count 1 = 0");
        s.tell("FAULT: the place of the first byte", "text x", "town = -10", "text lx", "town = -11",
            "text lag 1 p=1x;x", "town = -19");
        s.tell("FAULT: the end of THE TEXT, if it ends too early", "town = -10", "text l", "town = -11",
            "text lag 1 (p=1", "town = -20", "text fast 1;", "town = -17");
        StringBuilder open = new StringBuilder("text lag 10 p=00");
        while (open.length() < 5 + 98) {
            open.append("|p=03");
        }
        String start = open.substring(0, 5 + 96);
        s.tell("FAULT: the end of a hundred bytes", start + "|p=3", "count 5 = 100", "town = 0", start + "|p=0",
            "town = 1", start + "|!p=", "count 5 = 100", "town = -110", start + "|(k=", "town = -110", start + "|p= ",
            "town = -109", "count 1 = 2");
    }

    private static void newest() {
        s.tell("the newest TOWN holds", "person 0 0 0 0 = 0", "text fast 1;lag 3 p=0", "town = 0",
            "text fast 2;lag 4 p=0", "town = 1", "told 1 = 2", "of 0 5 = 4", "text fast 3", "town = 2", "told 1 = 3",
            "of 0 5 = 0");
        s.tell("9: THE TEXT is empty then", "text fast 1", "town = 0", "count 5 = 0", "! town = -10", "text fast 2",
            "count 5 = 6", "town = 1");
    }

    private static void full() {
        String[] six = {"text fast 1", "town = 0", "text fast 2", "town = 1", "text fast 3", "town = 2", "text fast 4",
            "town = 3", "text fast 5", "town = 4", "text fast 6", "town = 5", "count 1 = 6"};
        s.tellBehind("9: FULL, there are 6, THE TEXT stays", six, "! town = FULL", "text fast 7", "! town = FULL",
            "count 5 = 6", "count 1 = 6", "told 1 = 6", "feed 59 = 7", "! town = FULL", "count 5 = 7");
        s.tellBehind("9: FULL, whatever THE TEXT is", six, "text x", "! town = FULL", "count 5 = 1", "text fast",
            "! town = FULL", "count 5 = 5");
        s.tell("9: a FAULT does not count for FULL", "6x town = -10", "text fast 1", "town = 0", "5x town = -10",
            "text fast 2", "town = 1");
    }

    /** What LAG of 0 a TOWN of this one TEST makes; 1 if it holds. */
    private static void holds(String[] past, String test, int is) {
        s.tellBehind(test, past, "text lag 1 " + test, "town = 0", "of 0 5 = " + is);
    }

    /** That a letter tells just n (0 .. 99) of PERSON 0. */
    private static void tells(String[] past, char letter, int n) {
        if (n > 0) {
            holds(past, letter + ">" + (n - 1), 1);
            holds(past, letter + "=" + (n - 1), 0);
            holds(past, letter + "<" + (n - 1), 0);
        }
        holds(past, letter + "=" + n, 1);
        holds(past, letter + "<" + n, 0);
        holds(past, letter + ">" + n, 0);
        if (n < 99) {
            holds(past, letter + "<" + (n + 1), 1);
            holds(past, letter + "=" + (n + 1), 0);
            holds(past, letter + ">" + (n + 1), 0);
        }
    }

    private static String[] one(int kind, int v, int due, int off) {
        return new String[] {"person " + kind + " " + v + " " + due + " " + off + " = 0"};
    }

    private static void letters() {
        for (int kind = 0; kind <= 6; kind++) {
            tells(one(kind, 9, 99, 99), 'k', kind);
        }
        tells(one(3, 0, 99, 99), 'v', 0);
        tells(one(3, 9, 0, 0), 'v', 9);
        tells(one(3, 9, 99, 99), 'p', 0);
        // u: DUE by 10, cut
        int[] dues = {0, 9, 10, 19, 20, 89, 90, 99};
        int[] tens = {0, 0, 1, 1, 2, 8, 9, 9};
        for (int k = 0; k < dues.length; k++) {
            tells(one(0, 5, dues[k], 50), 'u', tens[k]);
        }
        // o: by how much OFF is from 0, 99 at most
        int[] offs = {0, 1, -1, 98, -98, 99, -99, 100, -100, 101, 999, -999};
        int[] far = {0, 1, 1, 98, 98, 99, 99, 99, 99, 99, 99, 99};
        for (int k = 0; k < offs.length; k++) {
            tells(one(0, 5, 50, offs[k]), 'o', far[k]);
        }
        s.tell("p: of a PERSON its number", "6x person 0 9 99 99", "text lag 1 p=5;lag 2 p<1;lag 4 p>5;lag 8 p=0",
            "town = 0", "of 0 5 = 10", "of 1 5 = 0", "of 4 5 = 0", "of 5 5 = 1");
    }

    private static void numbers() {
        String[] nought = one(0, 0, 0, 0);
        holds(nought, "v=00", 1);
        holds(nought, "v<00", 0);
        holds(nought, "v<01", 1);
        holds(nought, "v<99", 1);
        holds(nought, "v>99", 0);
        holds(one(0, 5, 0, 0), "v=05", 1);
        holds(one(0, 5, 0, 0), "v=50", 0);
        s.tell("n 1 or 2 digits", "person 0 0 0 0 = 0", "text lag 0 p=0", "town = 0", "of 0 5 = 0", "text lag 00 p=0",
            "town = 1", "of 0 5 = 0", "text lag 07 p=0", "town = 2", "of 0 5 = 7", "text lag 99 p=0", "town = 3",
            "of 0 5 = 99", "text haste 99 p=0;fast 09;loud 00", "town = 4", "of 0 5 = -99", "told 1 = 9", "told 2 = 0");
    }

    private static void days() {
        String[] past = one(0, 5, 50, 50);
        int[] days = {0, 1, 9, 10, 11, 19, 20, 60};
        for (int day : days) {
            tells(new String[] {past[0], "pass " + day + " = 50"}, 'd', day % 10);
        }
        String[] late = {past[0], "166x pass 60 = 50", "pass 39 = 50"};
        tells(late, 'd', 9);
        s.tell("d: DAY modulo 10, also beyond 9999", "person 5 5 50 50 = 0", "text lag 1 d=9;lag 2 d=0;lag 3 d=8",
            "town = 0", "166x pass 60 = 50", "pass 38 = 50", "who 3 0 = 1", "who 1 1 = 1", "who 2 2 = 1", "who 1 2 = 0",
            "who 3 10 = 1", "who 1 11 = 1", "who 2 12 = 1");
    }

    private static void joined() {
        String[] past = one(4, 7, 58, -34);
        String[] hold = {"p=0|p=1", "p=1|p=0", "p=0&k=4", "!p=1", "!!p=0", "p=0|p=1&p=1", "p=1&p=1|p=0",
            "(p=0|p=1)&k=4", "!p=1&k=4", "!(p=1&p=0)", "!(p=1|p=2)", "p=1|p=2|p=0", "p=0&k=4&v=7", "!p=0|p=0",
            "!(p=0&(p=1))", "p=0&(p=0)", "p=0&(p=1|(p=0|p=1))", "!(p=1&(p=0)|p=1)", "!!!!p=0", "((((p=0))))",
            "!!(!p=1)&p=0"};
        String[] fail = {"p=1|p=2", "p=0&p=1", "p=1&p=0", "!p=0", "!!p=1", "(p=0|p=1)&p=1", "p=1&(p=1|p=0)",
            "!(p=1|p=0)", "!p=1&p=1", "!p=0&p=1", "p=0&k=4&v=6", "!!!!p=1", "!!!p=0", "!(p=0)|p=1", "!(!(p=1))",
            "p=0&(p=1)", "p=1&(p=0)", "p=1&(p=0|(p=1|p=0))", "p=1|p=0&(p=1|p=2)"};
        for (String e : hold) {
            holds(past, e, 1);
        }
        for (String e : fail) {
            holds(past, e, 0);
        }
    }
}
