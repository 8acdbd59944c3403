/** Sentences that name an edge: promises 19 to 27. */
public final class EdgesSeenTest {
    private static final Checks c = new Checks("EdgesSeenTest");
    private static final Story s = new Story(c);
    // 1 is SET by 0 on the one DAY on which OFF of 0 is 0, DAY 20.
    private static final String[] TWENTIETH = {"person 5 9 0 -20 = 0", "person 0 0 0 7 = 1",
        "text fast 1;lag 5 p=0&o=0", "town = 0"};
    // Likewise DAY 59.
    private static final String[] SIXTIETH = {"person 5 9 0 -59 = 0", "person 0 0 0 0 = 1", "text fast 1;lag 5 p=0&o=0",
        "town = 0"};

    public static void main(String[] args) {
        see();
        was();
        can();
        odds();
        mean();
        week();
        gone();
        book();
        looked();
        c.end();
    }

    private static void see() {
        s.tell("19: NONE", "! see 0 0 0 = NONE", "person 0 0 0 0 = 0", "! see 1 0 0 = NONE", "! see -2 0 0 = NONE",
            "! see MIN 0 0 = NONE", "! see MAX 0 0 = NONE", "see 0 0 0 = 1");
        s.tell("19: OFF -999 .. 999", "person 0 0 0 0 = 0", "! see 0 -1000 0 = BAD", "! see 0 1000 0 = BAD",
            "! see 0 MIN 0 = BAD", "! see 0 MAX 0 = BAD", "see 0 -999 0 = 1", "see 0 999 0 = 2");
        s.tell("19: n 0 .. 20", "person 0 0 0 0 = 0", "! see 0 0 -1 = BAD", "! see 0 0 21 = BAD", "! see 0 0 MIN = BAD",
            "! see 0 0 MAX = BAD", "see 0 0 0 = 1", "see 0 0 20 = 2");
        s.tell("SEEN: 5 at most", "person 0 0 0 0 = 0", "4x see 0 0 1", "count 2 = 4", "see 0 0 1 = 5",
            "! see 0 0 1 = FULL", "! see 0 9 1 = FULL", "count 2 = 5", "was 0 0 = 1");
        s.tell("19: NONE ahead of BAD ahead of FULL", "person 0 0 0 0 = 0", "! see 1 1000 21 = NONE",
            "! see -2 0 21 = NONE", "5x see 0 0 0", "! see 1 0 0 = NONE", "! see 1 1000 0 = NONE",
            "! see 0 1000 0 = BAD", "! see 0 0 21 = BAD", "! see 0 -1000 -1 = BAD", "! see 0 0 0 = FULL");
        s.tell("19: person -1, none then, whatever the others are", "! see -1 0 0 = 0", "! see -1 1000 21 = 0",
            "person 0 0 0 0 = 0", "5x see 0 3 0", "see -1 1000 -1 = 0", "count 2 = 0", "was 0 0 = 41", "see 0 3 0 = 1",
            "see 0 3 0 = 2", "see -1 MIN MAX = 0", "count 2 = 0", "see -1 0 0 = 0", "see 0 3 0 = 1");
    }

    private static void was() {
        s.tell("20: NONE is -10001 here", "! was 0 0 = -10001", "person 0 0 0 0 = 0", "! was 1 0 = -10001",
            "! was -1 0 = -10001", "! was MIN 0 = -10001", "! was MAX 1 = -10001", "! was 0 -1 = -10001",
            "! was 0 2 = -10001", "! was 0 MIN = -10001", "! was 0 MAX = -10001", "! was 0 0 = 41", "5x person 0 0 0 0",
            "was 5 0 = 41", "! was 6 0 = -10001");
        s.tell("WAS: nothing is SEEN", "person 0 0 0 500 = 0", "! was 0 0 = 41", "! was 0 1 = -20", "of 0 3 = 500");
        int[] offs = {-21, -20, -19, -1, 0, 19, 20, 21};
        for (int off : offs) {
            boolean can = off >= -20 && off <= 20;
            s.tell("WAS: -20 .. 20, -10005: none", "person 0 0 0 0 = 0", "see 0 " + off + " 0 = 1",
                "! was 0 0 = " + (can ? 1 : 0), "! was 0 1 = " + (can ? off : -10005));
        }
        s.tell("WAS: -5 may be the least", "person 0 0 0 0 = 0", "see 0 -5 0 = 1", "was 0 1 = -5", "see 0 -4 0 = 2",
            "was 0 1 = -10005");
        s.tellBehind("WAS: the OFF behind 0 DAYS", TWENTIETH, "see 1 7 0 = 1", "! was 1 0 = 1", "! was 1 1 = 7",
            "! was 0 0 = 41");
        s.tellBehind("WAS: the OFF behind 20 DAYS", TWENTIETH, "see 1 1 20 = 1", "off 1 -19 = 7", "! was 1 0 = 1",
            "! was 1 1 = -19", "! was 0 1 = -20", "! was 0 0 = 22", "off 0 -19 = -20", "! was 1 0 = 41",
            "! was 1 1 = -20");
        s.tellBehind("WAS: all of SEEN", TWENTIETH, "see 1 8 1 = 1", "see 0 -19 1 = 2", "! was 1 0 = 1",
            "! was 0 0 = 1", "! was 0 1 = -20", "see 1 27 20 = 3", "! was 1 0 = 1", "see 1 27 19 = 4", "! was 1 0 = 0",
            "! was 1 1 = -10005", "! was 0 0 = 0");
        s.tell("WAS: of several the least", "person 5 9 0 10 = 0", "person 4 0 0 0 = 1", "text lag 5 p=0", "town = 0",
            "see 1 8 1 = 1", "! was 1 0 = 1", "! was 1 1 = 7", "see -1 0 0 = 0", "see 1 9 1 = 1", "! was 1 0 = 2",
            "! was 1 1 = 8", "see -1 0 0 = 0", "see 1 11 1 = 1", "! was 1 0 = 2", "! was 1 1 = 11", "see 1 11 0 = 2",
            "! was 1 0 = 1");
        s.tell("SEEN: from now", "person 0 0 0 0 = 0", "text fast 1", "town = 0", "see 0 9 4 = 1", "was 0 1 = 5",
            "pass 3", "was 0 1 = 5", "was 0 0 = 1", "pass 60", "was 0 1 = 5");
    }

    private static void can() {
        s.tell("21: NONE", "! can 0 0 = NONE", "person 0 5 0 0 = 0", "! can 1 0 = NONE", "! can -1 0 = NONE",
            "! can MIN 0 = NONE", "! can MAX 1 = NONE", "! can 0 -1 = NONE", "! can 0 2 = NONE", "! can 0 MIN = NONE",
            "! can 0 MAX = NONE", "! can 0 0 = 10", "5x person 0 0 0 0", "can 5 0 = 10", "! can 6 0 = NONE");
        s.tell("CAN: nothing is SEEN", "person 0 5 0 0 = 0", "! can 0 0 = 10", "! can 0 1 = 0", "of 0 1 = 5");
        s.tell("CAN: -5, none", "person 0 5 0 0 = 0", "see 0 1 0 = 1", "! can 0 0 = 0", "! can 0 1 = -5");
        for (int v = 0; v <= 9; v++) {
            s.tell("CAN: v 0 .. 9", "person 5 5 0 4 = 0", "person 0 0 0 0 = 1", "text lag 9 p=0&v=" + v, "town = 0",
                "see 1 4 1 = 1", "! can 0 0 = 1", "! can 0 1 = " + v, "of 0 1 = 5");
        }
        s.tell("CAN: v 0 .. 9", "person 5 5 0 4 = 0", "person 0 0 0 0 = 1", "text lag 9 p=0&v>9", "town = 0",
            "see 1 4 1 = 1", "! can 0 0 = 0", "! can 0 1 = -5");
        s.tell("CAN: r is v or more", "person 5 9 0 4 = 0", "person 0 9 0 0 = 1", "text lag 6 p=0", "town = 0",
            "see 1 4 1 = 1", "! can 1 0 = 7", "! can 1 1 = 0", "see -1 0 0 = 0", "see 1 0 1 = 1", "! can 1 0 = 3",
            "! can 1 1 = 7", "! can 0 0 = 10");
        s.tellBehind("CAN: the OFF behind 20 DAYS", TWENTIETH, "see 1 27 20 = 1", "! can 1 0 = 10", "off 0 -19 = -20",
            "! can 1 0 = 4", "! can 1 1 = 6");
        s.tellBehind("CAN: the OFF behind 0 DAYS", TWENTIETH, "see 1 7 0 = 1", "! can 1 0 = 10", "see 0 -19 0 = 2",
            "! can 1 0 = 0");
    }

    private static void odds() {
        s.tell("22: NO, nobody is there", "! odds 0 0 = NO", "! odds 0 1 = NO", "! odds 60 0 = NO");
        s.tellBehind("22: n 0 .. 60", SIXTIETH, "! odds -1 0 = NO", "! odds 61 0 = NO", "! odds MIN 1 = NO",
            "! odds MAX 1 = NO", "! odds 0 0 = 0", "! odds 0 1 = 1", "! odds 59 0 = 0", "! odds 60 0 = 0",
            "person 0 0 0 -59 = 2", "off 1 -59 = 0", "away 1 true", "! odds 60 0 = 1", "! odds 60 1 = 1",
            "away 1 false", "off 1 0 = -59", "! odds 59 0 = 0", "! odds 59 1 = 1", "! odds 60 0 = 1",
            "! odds 60 1 = 3");
        s.tell("22: part 0, 1", "person 0 0 0 0 = 0", "! odds 0 -1 = NO", "! odds 0 2 = NO", "! odds 0 MIN = NO",
            "! odds 0 MAX = NO", "! odds 0 0 = 1", "! odds 0 1 = 1");
        s.tell("ODDS: one alone", "person 0 0 0 999 = 0", "odds 0 0 = 1", "odds 60 1 = 1");
        s.tell("ODDS: from now on", "person 5 9 0 0 = 0", "person 0 0 0 0 = 1", "text fast 1;lag 5 p=0", "town = 0",
            "off 1 4 = 0", "pass 1 = 1", "off 1 4 = 1", "odds 1 0 = 0", "odds 1 1 = 1", "person 0 0 0 1 = 2",
            "odds 1 0 = 1", "odds 1 1 = 3", "away 1 true = 0", "odds 60 0 = 0");
        // Who may be AWAY is who agrees with 0 already; all six, if all do.
        int[][] sixths = {{0, 1}, {1, 6}, {1, 3}, {1, 2}, {2, 3}, {1, 1}};
        for (int right = 0; right <= 5; right++) {
            s.tell("ODDS: a fraction in lowest terms, " + right, "person 0 9 0 3 = 0", right + "x person 0 0 0 3",
                (5 - right) + "x person 0 0 0 4", "text lag 5 p=0", "town = 0", "count 0 = 6",
                "odds 1 0 = " + sixths[right][0], "odds 1 1 = " + sixths[right][1], "odds 60 0 = " + sixths[right][0]);
        }
        s.tell("ODDS: behind n, not ahead of it", "person 0 9 0 3 = 0", "person 0 0 0 3 = 1", "person 0 0 0 4 = 2",
            "text lag 5 p=0&d=1", "town = 0", "odds 0 0 = 0", "odds 1 0 = 0", "odds 2 0 = 1", "odds 2 1 = 3");
    }

    private static void mean() {
        s.tell("23: NO, nobody is there", "! mean 0 0 = NO", "! mean 0 1 = NO", "! mean 60 1 = NO");
        s.tellBehind("23: n 0 .. 60", SIXTIETH, "! mean -1 0 = NO", "! mean 61 0 = NO", "! mean MIN 1 = NO",
            "! mean MAX 1 = NO", "! mean 0 0 = 59", "! mean 0 1 = 2", "! mean 59 0 = 59", "! mean 59 1 = 2",
            "! mean 60 0 = 1", "! mean 60 1 = 1", "! mean 1 0 = 59", "! mean 1 1 = 2");
        s.tell("23: part 0, 1", "person 0 0 0 7 = 0", "! mean 0 -1 = NO", "! mean 0 2 = NO", "! mean 0 MIN = NO",
            "! mean 0 MAX = NO", "! mean 0 0 = 7", "! mean 0 1 = 1");
        // How many, how much together, the fraction
        int[][] all = {{1, 0, 0, 1}, {1, 999, 999, 1}, {2, 1, 1, 2}, {2, 2, 1, 1}, {3, 2, 2, 3}, {3, 3, 1, 1},
            {4, 2, 1, 2}, {4, 6, 3, 2}, {4, 8, 2, 1}, {5, 4, 4, 5}, {5, 10, 2, 1}, {6, 0, 0, 1}, {6, 1, 1, 6},
            {6, 2, 1, 3}, {6, 3, 1, 2}, {6, 4, 2, 3}, {6, 5, 5, 6}, {6, 6, 1, 1}, {6, 9, 3, 2},
            {6, 12, 2, 1}, {6, 999, 333, 2}};
        for (int[] a : all) {
            s.tell("MEAN: a fraction in lowest terms, " + a[1] + " by " + a[0], a[0] + "x person 0 0 0 0",
                "off 0 -" + a[1], "mean 0 0 = " + a[2], "mean 0 1 = " + a[3], "off 0 " + a[1], "mean 60 0 = " + a[2],
                "mean 60 1 = " + a[3]);
        }
        s.tell("MEAN: all watches, ahead or behind", "6x person 0 0 0 -999", "mean 0 0 = 999", "mean 0 1 = 1",
            "off 0 999", "away 0 true", "mean 0 0 = 999", "mean 0 1 = 1", "off 1 998", "mean 0 0 = 5993",
            "mean 0 1 = 6");
    }

    private static void week() {
        s.tell("24: what 0 .. 3", "person 0 0 0 7 = 0", "! week -2 0 = NONE", "! week 4 0 = NONE",
            "! week MIN 0 = NONE", "! week MAX 0 = NONE", "week 0 0 = 1", "week 1 0 = 2", "week 2 0 = 3",
            "week 3 0 = 4", "count 3 = 4");
        s.tell("24: person, by 1 .. 3", "! week 1 0 = NONE", "! week 2 0 = NONE", "! week 3 0 = NONE", "week 0 0 = 1",
            "person 0 0 0 7 = 0", "! week 1 1 = NONE", "! week 2 1 = NONE", "! week 3 1 = NONE", "! week 1 -1 = NONE",
            "! week 2 MIN = NONE", "! week 3 MAX = NONE", "week 3 0 = 2");
        s.tell("24: by 0 a person does not matter", "week 0 -1 = 1", "week 0 6 = 2", "week 0 MIN = 3", "week 0 MAX = 4",
            "gone 0 = 0", "person 0 0 0 7 = 0", "text fast 1", "town = 0", "gone 0 = 11");
        s.tell("WEEK: 10 rows at most", "person 0 0 0 7 = 0", "9x week 0 0", "count 3 = 9", "week 0 0 = 10",
            "! week 0 0 = FULL", "! week 3 0 = FULL", "gone 0 = 7", "count 3 = 10");
        s.tell("24: NONE ahead of FULL", "person 0 0 0 7 = 0", "10x week 0 0", "! week 4 0 = NONE", "! week 1 1 = NONE",
            "! week -2 -1 = NONE", "! week 0 1 = FULL");
        s.tell("24: what -1, it is empty then, whatever the other is", "! week -1 0 = 0", "! week -1 MAX = 0",
            "person 0 0 0 7 = 0", "10x week 3 0", "gone 0 = 0", "week -1 -5 = 0", "count 3 = 0", "gone 0 = 7",
            "week 3 0 = 1", "gone 0 = 0", "week -1 6 = 0", "gone 0 = 7", "week 0 0 = 1");
        s.tell("24: the sixth is the last", "6x person 0 0 0 7", "week 1 5 = 1", "week 2 5 = 2", "week 3 5 = 3",
            "! week 3 6 = NONE", "gone 1 = 7");
    }

    private static void gone() {
        String[] past = {"person 5 9 0 4 = 0", "person 0 0 0 -3 = 1", "text lag 5 p=0;fast 2", "town = 0"};
        s.tellBehind("25: what 0, 1", past, "! gone -1 = NONE", "! gone 2 = NONE", "! gone MIN = NONE",
            "! gone MAX = NONE", "! gone 0 = 4", "! gone 1 = 7");
        s.tell("25: nobody is there", "! gone 0 = 0", "! gone 1 = 0", "week 0 0 = 1", "! gone 0 = 0", "! gone 1 = 0",
            "! gone 2 = NONE");
        s.tellBehind("GONE: 0 a DAY", past, "week 0 0 = 1", "! gone 0 = 6", "! gone 1 = 0", "told 0 = 0",
            "week 0 0 = 2", "! gone 0 = 8");
        s.tellBehind("GONE: 1 one is AWAY", past, "week 1 1 = 1", "week 0 0 = 2", "! gone 0 = 6", "! gone 1 = 7",
            "of 1 4 = 0", "week 1 1 = 3", "week 0 0 = 4", "! gone 1 = 7");
        s.tellBehind("GONE: 2 one is not", past, "away 1 true = 0", "week 0 0 = 1", "! gone 1 = 7", "week 2 1 = 2",
            "! gone 1 = 7", "week 0 0 = 3", "! gone 1 = 0", "of 1 4 = 1", "told 3 = 2");
        s.tellBehind("GONE: 3 OFF of one is 0", past, "week 3 1 = 1", "! gone 0 = 4", "! gone 1 = 4", "week 3 0 = 2",
            "! gone 0 = 0", "week 0 0 = 3", "! gone 0 = 2", "of 0 3 = 4", "of 1 3 = -3");
        s.tellBehind("GONE: row by row", past, "week 0 0 = 1", "week 3 1 = 2", "! gone 0 = 6", "! gone 1 = 6",
            "week 1 0 = 3", "week 0 0 = 4", "! gone 0 = 8", "! gone 1 = 6", "week 2 0 = 5", "week 0 0 = 6",
            "! gone 1 = 0", "! gone 0 = 10");
        s.tellBehind("GONE: all 10 rows", past, "9x week 0 0", "gone 0 = 22", "week 3 0 = 10", "gone 0 = 22",
            "gone 1 = 22");
        s.tell("GONE: DAY goes on", "person 5 9 0 5 = 0", "person 0 0 0 0 = 1", "text lag 9 d=2&p=0", "town = 0",
            "week 0 0", "week 0 0", "! gone 1 = 5", "week 0 0 = 3", "! gone 1 = 0", "pass 1", "week -1 0 = 0",
            "week 0 0 = 1", "! gone 1 = 5", "week 0 0 = 2", "! gone 1 = 0");
    }

    private static void book() {
        s.tell("26: NONE", "! book 0 0 = NONE", "person 0 0 0 7 = 0", "! book 1 0 = NONE", "! book -2 0 = NONE",
            "! book MIN 0 = NONE", "! book MAX 0 = NONE", "book 0 7 = 1", "5x person 0 0 0 7", "book 5 7 = 2",
            "! book 6 7 = NONE");
        s.tell("26: OFF -999 .. 999", "person 0 0 0 7 = 0", "! book 0 -1000 = BAD", "! book 0 1000 = BAD",
            "! book 0 MIN = BAD", "! book 0 MAX = BAD", "book 0 -999 = 1", "book 0 999 = 2", "count 4 = 2");
        s.tell("BOOK: 8 at most", "person 0 0 0 7 = 0", "7x book 0 7", "count 4 = 7", "book 0 7 = 8",
            "! book 0 7 = FULL", "! book 0 6 = FULL", "looked = -5", "count 4 = 8");
        s.tell("26: NONE ahead of BAD ahead of FULL", "person 0 0 0 7 = 0", "! book 1 1000 = NONE",
            "! book -2 -1000 = NONE", "8x book 0 7", "! book 1 7 = NONE", "! book 1 1000 = NONE", "! book 0 1000 = BAD",
            "! book 0 -1000 = BAD", "! book 0 7 = FULL");
        s.tell("26: person -1, it is empty then, whatever the other is", "! book -1 0 = 0", "! book -1 1000 = 0",
            "person 0 0 0 7 = 0", "8x book 0 6", "looked = 0", "book -1 MIN = 0", "count 4 = 0", "looked = -5",
            "book 0 7 = 1", "looked = -5", "book 0 6 = 2", "looked = 1", "book -1 -1000 = 0", "looked = -5");
    }

    private static void looked() {
        s.tell("LOOKED at: -5, none", "! looked = -5", "person 0 0 0 7 = 0", "! looked = -5", "book 0 7 = 1",
            "! looked = -5");
        s.tell("LOOKED at: the first of these rows", "person 0 0 0 7 = 0", "person 0 0 0 8 = 1", "book 0 7 = 1",
            "book 1 8 = 2", "book 0 6 = 3", "book 1 9 = 4", "! looked = 2", "off 1 9 = 8", "! looked = 1",
            "off 0 6 = 7", "! looked = 0", "off 0 7 = 6", "off 1 8 = 9", "! looked = 2");
        s.tell("LOOKED at: the last of 8", "person 0 0 0 -999 = 0", "7x book 0 -999", "book 0 -998 = 8", "! looked = 7",
            "off 0 -998 = -999", "! looked = 0");
        s.tell("LOOKED at: as it is now", "person 0 0 0 7 = 0", "text fast 1", "town = 0", "book 0 9 = 1",
            "! looked = 0", "pass 2 = 9", "! looked = -5", "pass 1 = 10", "! looked = 0");
    }
}
