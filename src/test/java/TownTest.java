/** Promise 9: which texts are TOWNS, what their CLAUSES ask, and where the FAULT of the others is. */
public final class TownTest {
    private static final Checks c = new Checks("TownTest");

    public static void main(String[] args) {
        towns();
        faultKeepsTheHolder();
        full();
        letters();
        joining();
        faults();
        depth();
        limits();
        c.end();
    }

    private static void towns() {
        PealOfExcuses x = new PealOfExcuses();
        c.due("town", Checks.town(x, "fast 1"), 0);
        c.due("THE TEXT is empty", x.count(5), 0);
        c.due("FAST", x.told(1), 1);
        c.due("town", Checks.town(x, "fast 02;loud 99;haste 10 p=0|k=1&v<2;lag 1 !(u>3)"), 1);
        c.due("FAST", x.told(1), 2);
        c.due("LOUD", x.told(2), 99);
        c.due("how many", x.count(1), 2);
    }

    private static void faultKeepsTheHolder() {
        PealOfExcuses x = new PealOfExcuses();
        Checks.town(x, "fast 4");
        c.due("a fault", Checks.town(x, "fast 7;loud 9;x"), -24);
        c.due("the one that held holds", x.told(1), 4);
        c.due("LOUD", x.told(2), 5);
        c.due("how many", x.count(1), 1);
        c.due("THE TEXT is empty", x.count(5), 0);
        c.due("the next", Checks.town(x, "loud 9"), 1);
        c.due("FAST", x.told(1), 0);
        c.due("LOUD", x.told(2), 9);
        x.person(0, 0, 0, 0);
        c.due("a fault", Checks.town(x, "lag 9 p=0;loud 8;x"), -27);
        c.due("the next", Checks.town(x, "fast 2;lag 1 p=9"), 2);
        c.due("nothing is left of the fault", x.of(0, 5), 0);
        c.due("nothing is left of the fault", x.told(2), 5);
        for (int k = 0; k < 4; k++) {
            c.due("a fault", Checks.town(x, "lag 9 p=0|p=0|p=0|p=0|p=0|p=0|p=0|p=0|p=0|p=0|p=0|p=0|p=0|p=0;x"), -72);
        }
        c.due("the next", Checks.town(x, "lag 2 p=0|p=1&p=2|v=1;haste 1 !p=1&!(v=3|v=4)"), 3);
        c.due("LAG", x.of(0, 5), 1);
        c.due("a fault", Checks.town(x, "lag 9 p=0;x"), -20);
        c.due("the next", Checks.town(x, "lag 2 p=0"), 4);
        c.due("LAG", x.of(0, 5), 2);
    }

    private static void full() {
        PealOfExcuses x = new PealOfExcuses();
        for (int t = 0; t < 6; t++) {
            c.due("town", Checks.town(x, "fast " + t), t);
        }
        c.due("a seventh", Checks.town(x, "fast 9"), -4);
        c.due("THE TEXT stays", x.count(5), 6);
        c.due("the newest holds", x.told(1), 5);
        x.feed('x');
        c.due("a fault likewise", x.town(), -4);
        c.due("THE TEXT stays", x.count(5), 7);
        c.due("how many", x.count(1), 6);
    }

    /** The LAG of PERSON 2 (SLOW, v 7, DUE 58, OFF -34, DAY 13) in a TOWN of one CLAUSE. */
    private static int lag(String e) {
        PealOfExcuses x = new PealOfExcuses();
        x.person(0, 0, 0, 0);
        x.person(1, 1, 10, 1);
        x.person(4, 7, 58, -34);
        x.pass(13);
        c.due("town " + e, Checks.town(x, "lag 1 " + e), 0);
        return x.of(2, 5);
    }

    private static void letters() {
        String letters = "pkvuod";
        int[] is = {2, 4, 7, 5, 34, 3};
        for (int k = 0; k < 6; k++) {
            char letter = letters.charAt(k);
            for (int n = 0; n <= 99; n++) {
                if (n < 10 || Math.abs(n - is[k]) < 3 || n > 97) {
                    c.due(letter + "<" + n, lag(letter + "<" + n), is[k] < n ? 1 : 0);
                    c.due(letter + "=" + n, lag(letter + "=" + n), is[k] == n ? 1 : 0);
                    c.due(letter + ">" + n, lag(letter + ">" + n), is[k] > n ? 1 : 0);
                }
            }
        }
        PealOfExcuses x = new PealOfExcuses();
        x.person(0, 0, 99, 98);
        x.person(0, 0, 9, -99);
        x.person(0, 0, 10, 100);
        x.person(0, 0, 0, -999);
        x.person(0, 0, 90, -100);
        x.person(0, 0, 89, -98);
        Checks.town(x, "lag 1 o=99;lag 2 o=98;lag 4 u=9;lag 8 u=0;lag 16 u=1;haste 32 o>99");
        int[] lags = {6, 9, 17, 9, 5, 2};
        for (int p = 0; p < 6; p++) {
            c.due("o at most 99, u cut: " + p, x.of(p, 5), lags[p]);
        }
    }

    private static void joining() {
        String[] hold = {"p=2", "!p=1", "!!p=2", "(p=2)", "p=2|p=0&p=1", "p=0&p=1|p=2", "p=1|p=2", "p=0|p=1|p=2",
            "p=2&k=4&v=7", "!p=1&p=2", "!p=2&p=1|p=2", "(p=2|p=1)&!(k=1)", "p=2|p=2&p=0|p=0", "p=0|p=2&k=4|p=1",
            "!(p=2&p=1)", "(p=0|(k=4&v=7))&u=5", "p=2|(p=1)", "!(!(p=2))", "p=02", "v=7&o=34&d=3", "p=2|p=1&p=0&p=2"};
        String[] fail = {"p=1", "!p=2", "!!p=1", "(p=1)", "(p=2|p=0)&p=1", "p=2&p=1", "p=0|p=1", "!p=2&p=1",
            "!p=1&p=1", "!(p=1|p=2)", "p=2&(p=0|p=1)", "!(p=2)|p=0", "p=2&!k=4", "p=0|p=1|p=2&p=0", "p=2&p=2&p=0"};
        for (String e : hold) {
            c.due(e, lag(e), 1);
        }
        for (String e : fail) {
            c.due(e, lag(e), 0);
        }
        PealOfExcuses x = new PealOfExcuses();
        x.person(0, 0, 0, 0);
        Checks.town(x, "lag 50 p=0;haste 7 p=0;lag 3 p=1;haste 99 p=1;lag 9 k=0");
        c.due("all together", x.of(0, 5), 52);
    }

    private static void fault(String text, int place) {
        PealOfExcuses x = new PealOfExcuses();
        c.due("town of " + text, Checks.town(x, text), -10 - place);
        c.due("none came of " + text, x.count(1), 0);
        c.due("emptied: " + text, x.count(5), 0);
    }

    private static void faults() {
        String[] texts = {"", "x", ";", " lag 1 p=1", "l", "la", "lag", "lag ", "lag 1", "lag 1 ", "lag 1 p", "lag 1 p=",
            "lax", "lob 1", "laud 1", "loug 1", "h", "hasta", "haste", "hastex", "haste 12", "f", "fa", "fas", "fast",
            "fast ", "fact 1", "fast x", "fast  1", "fast 1 ", "fast 1 p=1", "fast 123", "fast 1;", "fast 1;;",
            "fast 1; fast 2", "fast 1|", "fast -1", "loud 5&", "lou 1", "Lag 1 p=1", "lag 1p=1", "lag 123 p=1",
            "lag 12  p=1", "lag 1 q=1", "lag 1 p!1", "lag 1 p==1", "lag 1 p=x", "lag 1 p=123", "lag 1 p= 1",
            "lag 1 p=1 ", "lag 1 p=1)", "lag 1 p=1|", "lag 1 p=1||p=1", "lag 1 p=1&", "lag 1 p=1&|", "lag 1 p=1!p=2",
            "lag 1 p=1p=2", "lag 1 p=1(", "lag 1 ()", "lag 1 (p=1", "lag 1 (p=1;", "lag 1 (p=1))", "lag 1 !", "lag 1 !)",
            "lag 1 |p=1", "lag 1 &p=1", "lag 1 p=1;l", "lag 1 p=1;fast 1;ha", "lag 1 p=1;;fast 1", "lag 1 (p=1|)",
            "lag 1 p<=1", "lag 1 p=1&!", "lag 1 (!(p=1)&v=2", "lag x", "lag 1 ;", "fast 1;lag 1 d=1;loud 5 "};
        int[] places = {0, 0, 0, 0, 1, 2, 3, 4, 5, 6, 7, 8,
            2, 2, 2, 3, 1, 4, 5, 5, 8, 1, 2, 3, 4,
            5, 2, 5, 5, 6, 6, 7, 7, 7,
            7, 6, 5, 6, 3, 0, 5, 6,
            7, 6, 7, 8, 8, 10, 8,
            9, 9, 10, 10, 10, 10, 9,
            9, 9, 7, 10, 10, 11, 7, 7,
            6, 6, 11, 19, 10, 11,
            8, 11, 17, 4, 6, 23};
        c.due("as many places as texts", places.length, texts.length);
        for (int k = 0; k < texts.length; k++) {
            fault(texts[k], places[k]);
        }
        PealOfExcuses x = new PealOfExcuses();
        x.feed('f');
        x.feed(0);
        c.due("a sign 0", x.town(), -11);
    }

    private static void depth() {
        String[] good = {"((((p=1))))", "!!!!p=1", "(!(!p=1))", "!(!(p=1)&v=2)", "((((p=1))))&((((p=1))))|!!!!p=2",
            "(((!p=1)&!p=2))|(p=1)", "!!!(p=1)&!p=1"};
        for (String e : good) {
            PealOfExcuses x = new PealOfExcuses();
            c.due(e, Checks.town(x, "lag 1 " + e), 0);
        }
        fault("lag 1 (((((p=1)))))", 10);
        fault("lag 1 !!!!!p=1", 10);
        fault("lag 1 ((((!p=1))))", 10);
        fault("lag 1 !(!((p=1)))", 10);
        fault("lag 1 ((((p=1)|(p=2))))|(p=1", 28);
        fault("lag 1 p=1&!(!(p=1&!!p=2))", 18);
        fault("lag 1 ((((p=1&(p=2)))))", 14);
        fault("lag 1 !!!!(p=1)", 10);
    }

    private static void limits() {
        StringBuilder ten = new StringBuilder("fast 1");
        for (int k = 2; k <= 10; k++) {
            ten.append(";fast ").append(k);
        }
        PealOfExcuses x = new PealOfExcuses();
        c.due("ten CLAUSES", Checks.town(x, ten.toString()), 0);
        c.due("the last one's", x.told(1), 10);
        fault(ten + ";", 70);
        fault(ten + ";fast 1", 70);
        StringBuilder hundred = new StringBuilder("lag 10 p=00");
        while (hundred.length() < 96) {
            hundred.append("|p=03");
        }
        hundred.append("&k=0");
        c.due("a hundred signs", hundred.length(), 100);
        PealOfExcuses y = new PealOfExcuses();
        y.person(0, 0, 0, 0);
        c.due("of a hundred signs", Checks.town(y, hundred.toString()), 0);
        c.due("LAG", y.of(0, 5), 10);
        fault(hundred.substring(0, 98) + "&&", 98);
        fault(hundred.substring(0, 96) + "&k=(", 99);
        fault(hundred.substring(0, 96) + "&!k=", 100);
        PealOfExcuses all = new PealOfExcuses();
        all.person(0, 0, 0, 0);
        StringBuilder tenLags = new StringBuilder("lag 0 p=0");
        for (int k = 1; k < 10; k++) {
            tenLags.append(";lag ").append(k).append(" p=0");
        }
        c.due("ten lags", Checks.town(all, tenLags.toString()), 0);
        c.due("LAG", all.of(0, 5), 45);
        PealOfExcuses most = new PealOfExcuses();
        most.person(0, 0, 99, -999);
        StringBuilder lags = new StringBuilder("lag 99 p=0");
        for (int k = 1; k < 9; k++) {
            lags.append(";lag 99 p=0");
        }
        c.due("nine lags", Checks.town(most, lags.toString()), 0);
        c.due("LAG", most.of(0, 5), 891);
        c.due("COMES", most.of(0, 6), 99 + 891 + 999);
        c.due("RINGS", most.of(0, 7), 891);
    }
}
