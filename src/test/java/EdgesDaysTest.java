/** Sentences that name an edge: how a DAY goes, and promises 11 to 18. */
public final class EdgesDaysTest {
    private static final Checks c = new Checks("EdgesDaysTest");
    private static final Story s = new Story(c);

    public static void main(String[] args) {
        ringsLongEnough();
        loudEnough();
        half();
        lesserNumber();
        rowOfTheDay();
        held();
        inTheOrderOfComing();
        awayOnes();
        pass();
        beyondTheLastDay();
        on();
        settles();
        agreeAndRight();
        prompt();
        best();
        when();
        apart();
        who();
        c.end();
    }

    /** OFF of PERSON 1 behind a DAY on which 0, whose OFF is o, rings r minutes. */
    private static int set(int kind, int v, int off, int o, int r, String loud) {
        PealOfExcuses x = new PealOfExcuses();
        x.person(5, 9, 0, o);
        x.person(kind, v, 50, off);
        c.due("town", Checks.town(x, "lag " + r + " p=0" + loud), 0);
        x.pass(1);
        c.due("who rings is not SET", x.of(0, 3), o);
        return x.of(1, 3);
    }

    private static void ringsLongEnough() {
        int[] becomes = {40, 20, 40, 40, 1, 0, 40};
        for (int kind = 0; kind <= 6; kind++) {
            for (int v = 0; v <= 9; v++) {
                for (int r = Math.max(1, v - 1); r <= v + 1; r++) {
                    String what = "KIND " + kind + ": if r is v or more, r " + r + " v " + v;
                    c.due(what, set(kind, v, 0, 40, r, ";loud 0"), r >= v ? becomes[kind] : 0);
                }
            }
            c.due("KIND " + kind + " at r 99", set(kind, 9, 0, 40, 99, ";loud 99"), becomes[kind]);
        }
    }

    private static void loudEnough() {
        int[] louds = {0, 1, 2, 5, 6, 98, 99};
        for (int loud : louds) {
            for (int r = Math.max(1, loud - 1); r <= Math.min(99, loud + 1); r++) {
                c.due("DEAF: only if r is LOUD or more, r " + r + " LOUD " + loud, set(2, 0, 3, 40, r, ";loud " + loud),
                    r >= loud ? 40 : 3);
                c.due("PERSON does not mind LOUD", set(0, 0, 3, 40, r, ";loud " + loud), 40);
            }
        }
        s.tell("DEAF: r, of all together", "person 5 9 0 7 = 0", "person 5 9 0 7 = 1", "person 2 0 0 0 = 2",
            "text lag 4 p<2;loud 8", "town = 0", "on 1 12 = 7", "text lag 4 p<2;loud 9", "town = 1", "on 1 12 = 0");
        s.tell("if r, of all together, is v or more", "person 5 9 0 7 = 0", "person 5 9 0 7 = 1", "person 0 8 0 0 = 2",
            "text lag 4 p<2", "town = 0", "on 1 12 = 7", "text lag 4 p=0;lag 3 p=1", "town = 1", "due 1 1 = 0",
            "of 1 7 = 7", "on 1 12 = 0");
        c.due("LOUD: 5 without, r 4", set(2, 0, 3, 40, 4, ""), 3);
        c.due("LOUD: 5 without, r 5", set(2, 0, 3, 40, 5, ""), 40);
        c.due("DEAF: as PERSON, r below v", set(2, 7, 3, 40, 6, ";loud 6"), 3);
        c.due("DEAF: as PERSON, r is v", set(2, 7, 3, 40, 7, ";loud 7"), 40);
        c.due("DEAF: as PERSON, r is v, but not LOUD", set(2, 7, 3, 40, 7, ";loud 8"), 3);
    }

    private static void half() {
        int[] halves = {0, 0, 1, 1, 2, 2, 3, 3, 4, 4, 5};
        for (int off = -5; off <= 5; off++) {
            for (int o = -5; o <= 5; o++) {
                int far = Math.abs(o - off);
                int toward = o > off ? 1 : -1;
                String from = ", from " + off + " toward " + o;
                c.due("CAREFUL: the half, cut" + from, set(1, 0, off, o, 9, ""), off + toward * halves[far]);
                c.due("SLOW: 1 at most" + from, set(4, 0, off, o, 9, ""), off + toward * (far < 2 ? 0 : 1));
            }
        }
        c.due("CAREFUL from end to end", set(1, 0, -999, 999, 9, ""), 0);
        c.due("CAREFUL from end to end", set(1, 0, 999, -999, 9, ""), 0);
        c.due("CAREFUL, cut", set(1, 0, 999, -998, 9, ""), 1);
        c.due("CAREFUL, cut", set(1, 0, -998, 999, 9, ""), 0);
        c.due("SLOW from end to end", set(4, 0, -999, 999, 9, ""), -998);
        c.due("SLOW from end to end", set(4, 0, 999, -999, 9, ""), 998);
    }

    private static void lesserNumber() {
        for (int kind = 0; kind <= 6; kind++) {
            for (int ringer = 0; ringer < 6; ringer++) {
                PealOfExcuses x = new PealOfExcuses();
                for (int p = 0; p < 6; p++) {
                    x.person(p == ringer ? 5 : kind, p == ringer ? 0 : 9, 0, p == ringer ? 40 : 10);
                }
                Checks.town(x, "lag 9 p=" + ringer);
                x.pass(1);
                for (int p = 0; p < 6; p++) {
                    boolean hears = kind != 5 && (kind != 3 && kind != 6 || ringer < p);
                    int then = kind == 1 ? 25 : kind == 4 ? 11 : 40;
                    int due = p == ringer ? 40 : hears ? then : 10;
                    c.due("KIND " + kind + " number " + p + " by " + ringer, x.of(p, 3), due);
                }
            }
        }
    }

    private static void rowOfTheDay() {
        String[] told = {"person 5 9 0 20 = 0", "person 6 0 0 0 = 1", "row 1 0 1 = 0", "row 1 1 3 = 0", "row 1 2 5 = 0",
            "row 1 3 9 = 0", "text lag 9 p=0", "town = 0"};
        s.tellBehind("TOLD: its ROW at DAY modulo 4 more", told, "on 1 11 = 21", "on 2 11 = 23", "on 3 11 = 25",
            "on 4 11 = 29", "on 5 11 = 21", "on 6 11 = 23", "on 60 11 = 29", "pass 1 = 21", "of 1 3 = 21",
            "pass 1 = 23", "pass 1 = 25", "pass 1 = 29", "pass 1 = 21");
        s.tellBehind("TOLD: its ROW beyond DAY 9999", told, "166x pass 60", "pass 38", "told 0 = 9998", "on 1 11 = 25",
            "on 2 11 = 29", "on 3 11 = 21", "on 4 11 = 23", "pass 1 = 25", "on 1 11 = 29", "on 2 11 = 21");
        s.tell("TOLD: no ROW, if it does not so: r below v", "person 5 9 0 20 = 0", "person 6 9 0 4 = 1",
            "row 1 0 7 = 0", "text lag 8 p=0", "town = 0", "on 1 11 = 4", "text lag 9 p=0", "town = 1", "on 1 11 = 27");
        s.tell("TOLD: no ROW, if it does not so: a greater number", "person 6 0 0 4 = 0", "person 5 9 0 20 = 1",
            "row 0 0 7 = 0", "text lag 8 p=1", "town = 0", "on 1 10 = 4");
        s.tell("SETTING of the sixth, by its v", "person 5 9 0 20 = 0", "4x person 0 0 0 0", "person 0 8 0 0 = 5",
            "text lag 7 p=0", "town = 0", "on 1 15 = 0", "on 1 14 = 20", "text lag 8 p=0", "town = 1",
            "on 1 15 = 20", "pass 1", "of 5 3 = 20");
        s.tell("TOLD: the ROW of the sixth", "person 5 9 0 20 = 0", "5x person 6 0 0 0", "row 5 0 1 = 0",
            "row 5 1 2 = 0", "row 5 2 3 = 0", "row 5 3 4 = 0", "row 4 1 9 = 0", "text lag 9 p=0", "town = 0",
            "on 1 15 = 21", "on 2 15 = 22", "on 3 15 = 23", "on 4 15 = 24", "on 5 15 = 21", "on 2 14 = 29",
            "on 1 14 = 20");
        s.tell("TOLD: its ROW each time", "person 5 9 0 20 = 0", "person 5 9 9 30 = 1", "person 6 0 0 0 = 2",
            "row 2 0 7 = 0", "text lag 9 p<2", "town = 0", "of 0 6 = -11", "of 1 6 = -12", "on 1 12 = 27");
    }

    private static void held() {
        int[] offs = {989, 990, 991, 995, 999, -999, -990};
        int[] then = {998, 999, 999, 999, 999, -990, -981};
        for (int k = 0; k < offs.length; k++) {
            s.tell("OFF is held to -999 .. 999: a ROW of 9 more than " + offs[k], "person 5 9 0 " + offs[k] + " = 0",
                "person 6 0 0 0 = 1", "row 1 0 9 = 0", "text lag 9 p=0", "town = 0", "on 1 11 = " + then[k]);
        }
        int[][] fast = {{998, 1, 999}, {999, 1, 999}, {899, 99, 998}, {900, 99, 999}, {901, 99, 999}, {999, 99, 999},
            {-999, 99, -900}, {-999, 0, -999}, {-1, 1, 0}};
        for (int[] f : fast) {
            s.tell("OFF is held to -999 .. 999: FAST " + f[1] + " from " + f[0], "person 0 0 0 " + f[0] + " = 0",
                "person 0 0 0 0 = 1", "away 0 true", "text fast " + f[1], "town = 0", "on 1 10 = " + f[2],
                "away 0 false", "pass 1", "of 0 3 = " + f[2]);
        }
        s.tell("OFF is held at once, ahead of the next who RINGS", "person 5 9 0 995 = 0", "person 6 0 50 0 = 1",
            "row 1 0 9 = 0", "person 1 0 0 0 = 2", "text lag 9 p<2", "town = 0", "of 0 6 = -986", "of 1 6 = 59",
            "pass 1 = 999", "of 1 3 = 999", "of 2 3 = 748");
        s.tell("held, OFF becomes no other one", "person 5 9 0 995 = 0", "person 6 0 0 999 = 1", "row 1 0 9 = 0",
            "row 1 1 9 = 0", "row 1 2 4 = 0", "row 1 3 3 = 0", "text lag 9 p=0", "town = 0", "until 0 = 0", "pass 1",
            "until 0 = 0", "pass 1", "until 0 = 0", "pass 1 = 999", "of 1 3 = 999", "until 0 = 2", "off 1 998 = 999",
            "until 0 = 0");
    }

    private static void inTheOrderOfComing() {
        int[] rank = {0, 1, 2, 3, 4};
        permute(rank, 0);
        s.tell("in the order in which they COME: below 0 first", "person 5 9 0 40 = 0", "person 5 9 60 50 = 1",
            "person 5 9 50 60 = 2", "person 0 0 0 0 = 3", "text lag 9 p<3", "town = 0", "of 0 6 = -31", "of 1 6 = 19",
            "of 2 6 = -1", "on 1 13 = 50", "due 0 99 = 0", "of 0 6 = 68", "on 1 13 = 40");
        s.tell("at one minute: by their numbers, each of whom RINGS all of it", "person 0 4 40 7 = 0",
            "person 0 4 36 3 = 1", "person 0 9 0 1 = 2", "text lag 2 p<2", "town = 0", "of 0 6 = 35", "of 1 6 = 35",
            "of 0 7 = 4", "pass 1 = 7", "of 0 3 = 7", "of 1 3 = 7", "of 2 3 = 1", "off 1 3 = 7",
            "text lag 2 p<2;lag 1 p=1", "town = 1", "due 1 35 = 36", "of 1 7 = 5", "on 1 11 = 7", "on 1 10 = 7",
            "on 1 12 = 1");
        s.tell("at one minute: by their numbers, whoever came first of all", "person 5 9 30 10 = 0",
            "person 5 9 40 20 = 1", "person 5 9 20 0 = 2", "person 1 0 0 0 = 3", "text lag 9 p<3", "town = 0",
            "of 0 6 = 29", "of 1 6 = 29", "of 2 6 = 29", "of 2 7 = 27", "on 1 13 = 6");
        s.tell("RINGS are by how all is ahead of the DAY", "person 5 9 0 0 = 0", "person 0 0 40 9 = 1",
            "person 0 7 0 4 = 2", "text lag 5 p=0;lag 7 p=1&o=9", "town = 0", "of 1 6 = 38", "pass 1 = 0", "of 1 3 = 0",
            "of 2 3 = 0", "of 1 7 = 0");
        // 1 is SET so as to come at one minute with 2, but each rings alone, and in the order told ahead of it.
        s.tell("COMES are by how all is ahead of the DAY", "person 5 9 0 0 = 0", "person 0 0 40 9 = 1",
            "person 5 9 40 0 = 2", "person 0 6 0 4 = 3", "person 1 0 0 100 = 4", "text lag 5 p<3", "town = 0",
            "of 1 6 = 36", "of 2 6 = 45", "of 1 7 = 5", "pass 1 = 13", "of 1 3 = 0", "of 3 3 = 4", "of 4 3 = 13",
            "of 1 6 = 45", "of 1 7 = 10");
        s.tell("by how both are OFF then", "person 5 9 0 8 = 0", "person 1 0 40 0 = 1", "person 1 0 90 0 = 2",
            "text lag 9 p<2", "town = 0", "on 1 11 = 4", "on 1 12 = 4", "text lag 9 p<2;fast 1", "town = 1",
            "on 1 10 = 9", "on 1 11 = 5", "on 1 12 = 5");
        s.tell("all others, those who RING too", "person 0 0 0 8 = 0", "person 0 0 40 2 = 1", "text lag 9 p<2",
            "town = 0", "of 0 6 = 1", "of 1 6 = 47", "on 1 10 = 8", "on 1 11 = 8", "due 0 90 = 0", "on 1 10 = 2",
            "on 1 11 = 2");
    }

    /** Each order in which five may come. */
    private static void permute(int[] rank, int from) {
        if (from == rank.length) {
            comingSo(rank);
            return;
        }
        for (int k = from; k < rank.length; k++) {
            swap(rank, from, k);
            permute(rank, from + 1);
            swap(rank, from, k);
        }
    }

    private static void swap(int[] rank, int one, int other) {
        int was = rank[one];
        rank[one] = rank[other];
        rank[other] = was;
    }

    /** Five STUBBORN ones come, each at its rank's minute; a CAREFUL one, 5, hears them one by one. */
    private static void comingSo(int[] rank) {
        int[] offs = {0, 90, -90, 45, -30};
        PealOfExcuses x = new PealOfExcuses();
        for (int p = 0; p < 5; p++) {
            // COMES is DUE and 9, less OFF
            x.person(5, 9, 0, offs[p] / 3);
            x.due(p, 40 + rank[p] - 9 + offs[p] / 3);
        }
        x.person(1, 0, 99, 900);
        Checks.town(x, "lag 9 p<5");
        int off = 900;
        for (int r = 0; r < 5; r++) {
            for (int p = 0; p < 5; p++) {
                if (rank[p] == r) {
                    c.due("COMES", x.of(p, 6), 40 + r);
                    off += (offs[p] / 3 - off) / 2;
                }
            }
        }
        c.due("in the order in which they COME: " + rank[0] + rank[1] + rank[2] + rank[3] + rank[4], x.on(1, 15), off);
    }

    private static void awayOnes() {
        String[] three = {"person 5 9 0 40 = 0", "person 0 0 0 3 = 1", "person 0 0 0 4 = 2", "text lag 9 p=0;fast 2",
            "town = 0"};
        s.tellBehind("all others who are not AWAY", three, "away 1 true = 0", "pass 1 = 42", "of 1 3 = 5",
            "of 2 3 = 42");
        s.tellBehind("one who is AWAY does not RING", three, "away 0 true = 0", "pass 1 = 42", "of 1 3 = 5",
            "of 2 3 = 6", "of 0 3 = 42");
        s.tellBehind("FAST: those who are AWAY too", three, "away 0 true", "away 1 true", "away 2 true", "pass 3 = 46",
            "of 1 3 = 9", "of 2 3 = 10", "told 3 = 7");
    }

    private static void pass() {
        s.tell("11: n 0 .. 60", "person 0 0 0 7 = 0", "! pass -1 = BAD", "! pass 61 = BAD", "! pass MIN = BAD",
            "! pass MAX = BAD", "! pass 0 = 7", "told 0 = 0", "pass 60 = 7", "told 0 = 60", "pass 1 = 7",
            "told 0 = 61");
        s.tell("11: WRONG then", "person 0 0 0 -60 = 0", "text fast 1", "town = 0", "pass 60 = 0", "pass 60 = 60",
            "pass 59 = 119", "told 0 = 179");
        String[] late = {"person 0 0 0 7 = 0", "text lag 9 p=0&d=9", "town = 0", "165x pass 60", "pass 40",
            "told 0 = 9940"};
        s.tellBehind("11: STATE, DAY would be above 9999", late, "! pass 60 = STATE", "pass 59 = 7", "told 0 = 9999");
        s.tellBehind("11: STATE, at DAY 9999", late, "pass 59 = 7", "! pass 1 = STATE", "! pass 60 = STATE",
            "! pass 0 = 7", "told 0 = 9999");
        s.tellBehind("11: STATE, at DAY 9998", late, "pass 58 = 7", "! pass 2 = STATE", "pass 1 = 7", "told 0 = 9999");
        s.tellBehind("11: BAD ahead of STATE", late, "pass 59 = 7", "! pass 61 = BAD", "! pass -1 = BAD",
            "! pass MAX = BAD", "! pass MIN = BAD");
        s.tell("11: nobody is there", "pass 60 = 0", "told 0 = 60", "pass 0 = 0");
    }

    /** At DAY 9999 all that is asked goes on, and changes nothing. */
    private static void beyondTheLastDay() {
        String[] late = {"person 5 9 0 20 = 0", "person 0 0 0 3 = 1", "text lag 9 p=0&d=1", "town = 0", "166x pass 60",
            "pass 38", "off 1 3 = 20", "pass 1 = 20", "told 0 = 9999"};
        s.tellBehind("DAYS also beyond 9999", late, "! on 0 11 = 3", "! on 2 11 = 3", "! on 3 11 = 20",
            "! on 60 11 = 20", "! until 0 = 0", "! until 1 = 3", "! until 2 = -5", "! prompt = -5", "! best 0 = 0",
            "! when 1 = 0", "! apart 0 1 60 = 17", "! who 9 1 = 0", "! who 9 2 = 1", "! who 9 40 = 0", "! who 9 32 = 1",
            "! odds 2 0 = 0", "! odds 3 0 = 0", "! mean 2 0 = 23", "! mean 3 0 = 20", "! mean 60 1 = 1");
        s.tellBehind("SEEN, the WEEK also beyond 9999", late, "see 1 20 3 = 1", "! was 1 0 = 41", "! was 0 1 = 20",
            "! can 1 0 = 10", "see 1 3 2 = 2", "! was 1 0 = 1", "week 0 0 = 1", "week 0 0 = 2", "! gone 1 = 17",
            "week 0 0 = 3", "! gone 1 = 0", "told 0 = 9999");
    }

    private static void on() {
        String[] past = {"person 5 9 0 -59 = 0", "person 0 0 0 0 = 1", "text fast 1;lag 5 p=0&o=0", "town = 0"};
        s.tellBehind("ON n DAYS, 0 .. 60", past, "! on -1 0 = -10002", "! on 61 0 = -10002", "! on MIN 1 = -10002",
            "! on MAX 10 = -10002", "! on 0 0 = 59", "! on 0 1 = 59", "! on 0 10 = -59", "! on 59 11 = 59",
            "! on 60 11 = 1", "! on 59 1 = 59", "! on 60 1 = 0", "! on 60 0 = 1", "told 0 = 0");
        s.tellBehind("12: NONE is -10001 here", past, "! on 0 -1 = -10001", "! on 0 2 = -10001", "! on 0 9 = -10001",
            "! on 0 12 = -10001", "! on 0 15 = -10001", "! on 0 16 = -10001", "! on 0 MIN = -10001",
            "! on 0 MAX = -10001", "! on 0 -10 = -10001", "! on 0 11 = 0");
        s.tellBehind("12: NONE ahead of BAD", past, "! on 61 2 = -10001", "! on -1 12 = -10001",
            "! on MAX MIN = -10001");
        s.tell("12: what 10 .. 15", "! on 0 10 = -10001", "6x person 0 0 0 0", "off 5 8 = 0", "on 0 15 = 8",
            "on 0 14 = 0", "on 0 16 = -10001", "on 0 9 = -10001");
    }

    private static void settles() {
        s.tell("13: what 0 .. 2", "person 0 0 0 1 = 0", "! until -1 = NONE", "! until 3 = NONE", "! until MIN = NONE",
            "! until MAX = NONE", "! until 0 = 0", "! until 1 = 0", "! until 2 = -5");
        s.tell("UNTIL, nobody is there", "until 0 = 0", "until 1 = 0", "until 2 = 0", "until 3 = NONE");
        // SLOW goes 1 a DAY, until it is 1 from there.
        String[] slow = {"person 5 9 0 61 = 0", "person 4 0 0 0 = 1", "text lag 5 p=0", "town = 0"};
        s.tellBehind("SETTLES: 0 .. 60", slow, "! until 0 = 60", "off 0 62 = 61", "! until 0 = -5", "off 1 1 = 0",
            "until 0 = 60", "off 1 59 = 1", "until 0 = 2", "off 1 60 = 59", "until 0 = 1", "off 1 61 = 60",
            "until 0 = 0", "off 1 63 = 61", "until 0 = 0", "off 1 62 = 63", "until 0 = 0");
        s.tellBehind("SETTLES: 0 is the next one", slow, "off 1 59 = 0", "until 0 = 1", "pass 1", "until 0 = 0",
            "off 1 0 = 60", "away 1 true", "until 0 = 0", "away 1 false", "away 0 true", "until 0 = 0");
        s.tell("SETTLES: by SETTING, not by FAST", "person 5 9 0 0 = 0", "person 0 0 0 0 = 1", "text lag 5 p=0;fast 9",
            "town = 0", "until 0 = 0", "off 1 3 = 0", "until 0 = 1");
        // 2 is SET to 3 by 0, and back to 4 by 1.
        s.tell("SETTLES: to and fro on one DAY is another one, too", "person 5 9 0 3 = 0", "person 5 9 20 4 = 1",
            "person 0 0 0 4 = 2", "text lag 5 p<2", "town = 0", "on 1 12 = 4", "until 0 = -5", "off 0 4 = 3",
            "until 0 = 0");
        s.tell("SETTLES: the first DAY on which none does", "person 5 9 0 0 = 0", "person 0 0 0 3 = 1",
            "text lag 5 p=0&d=2", "town = 0", "until 0 = 0", "pass 2 = 3", "until 0 = 1");
    }

    private static void agreeAndRight() {
        String[] late = {"person 5 9 0 -59 = 0", "person 0 0 0 0 = 1", "text fast 1;lag 5 p=0&o=0", "town = 0"};
        s.tellBehind("AGREE: 0 .. 60", late, "! until 1 = 60", "off 0 -60 = -59", "! until 1 = -5", "off 0 -58 = -60",
            "until 1 = 59", "off 0 0 = -58", "until 1 = 0", "off 1 4 = 0", "until 1 = 1");
        s.tell("AGREE: -5, not by then", "person 5 9 0 0 = 0", "person 5 9 0 1 = 1", "text fast 1", "town = 0",
            "until 1 = -5");
        String[] fast = {"person 0 0 0 -60 = 0", "text fast 1", "town = 0"};
        s.tellBehind("RIGHT: 0 .. 60", fast, "! until 2 = 60", "off 0 -61 = -60", "! until 2 = -5", "off 0 -59 = -61",
            "until 2 = 59", "off 0 -1 = -59", "until 2 = 1", "off 0 0 = -1", "until 2 = 0", "off 0 1 = 0",
            "until 2 = -5");
        s.tellBehind("RIGHT: all of them", fast, "person 0 0 0 -60 = 1", "until 2 = 60", "off 1 -59 = -60",
            "until 2 = -5", "off 0 -59 = -60", "until 2 = 59");
    }

    private static void prompt() {
        s.tell("PROMPT: -5, nobody is there", "! prompt = -5");
        // TOLD goes 9 beyond 0, when 0 rings, which it does on the one DAY on which its OFF is 0.
        String[] told = {"person 5 9 0 -29 = 0", "person 6 0 0 -34 = 1", "row 1 0 9", "row 1 1 9", "row 1 2 9",
            "row 1 3 9", "text fast 1;lag 5 p=0&o=0", "town = 0"};
        s.tellBehind("PROMPT: WRONG behind 30 DAYS", told, "on 30 0 = 10", "! prompt = 0", "off 0 -30 = -29",
            "on 30 0 = 4", "on 31 0 = 10", "! prompt = -5", "off 0 -28 = -30", "on 30 0 = 11", "! prompt = 0");
        s.tellBehind("PROMPT: if less than as it is", told, "off 1 -40 = -34", "on 30 0 = 10", "! prompt = -5",
            "off 1 -39 = -40", "! prompt = 0", "off 1 -41 = -39", "! prompt = -5");
        // Either one alone is not heard by v 8.
        String[] both = {"person 5 0 10 40 = 0", "person 5 0 10 40 = 1", "person 6 8 0 0 = 2", "row 2 0 9 = 0",
            "row 2 1 9 = 0", "row 2 2 9 = 0", "row 2 3 9 = 0", "text lag 4 p<2", "town = 0"};
        s.tellBehind("PROMPT: of several the first", both, "on 30 0 = 49", "! prompt = 0", "of 0 5 = 4", "of 1 5 = 4");
        // 5 minutes are heard by v 5, 4 are not, and both are together.
        s.tell("PROMPT: the least of all", "person 5 9 10 10 = 0", "person 5 9 31 30 = 1", "person 6 5 0 35 = 2",
            "row 2 0 9 = 0", "row 2 1 9 = 0", "row 2 2 9 = 0", "row 2 3 9 = 0", "text lag 5 p=0;lag 4 p=1", "town = 0",
            "of 0 7 = 9", "of 1 7 = 9", "on 30 0 = 39", "! prompt = 1", "off 2 34 = 35", "off 1 34 = 30",
            "due 1 35 = 31", "of 1 7 = 9", "on 30 0 = 43", "! prompt = 0");
        s.tellBehind("PROMPT: one who is AWAY is no better", both, "away 0 true = 0", "on 30 0 = 40", "! prompt = -5");
        s.tell("PROMPT: all six are tried", "person 5 9 0 0 = 0", "person 5 9 0 0 = 1", "person 5 9 0 0 = 2",
            "person 5 9 0 0 = 3", "person 0 0 9 5 = 4", "person 0 9 9 9 = 5", "text lag 5 p=5", "town = 0",
            "! prompt = -5", "person 0 0 0 0 = FULL", "text lag 5 p=4", "town = 1", "off 5 0 = 9", "! prompt = -5",
            "text lag 9 p>3", "town = 2", "off 4 9 = 5", "off 5 3 = 0", "on 30 0 = 9", "! prompt = 4", "off 4 3 = 9",
            "off 5 9 = 3", "on 30 0 = 9", "! prompt = 5");
    }

    private static void best() {
        s.tell("15: NONE is -10001 here", "! best 0 = -10001", "person 0 0 0 0 = 0", "! best 1 = -10001",
            "! best -1 = -10001", "! best MIN = -10001", "! best MAX = -10001", "! best 0 = 0", "5x person 0 0 0 0",
            "best 5 = 0", "! best 6 = -10001");
        s.tell("BEST: -9 .. 9, of several the least", "person 5 0 0 500 = 0", "! best 0 = 0", "person 5 0 0 9 = 1",
            "! best 0 = -9", "off 1 8 = 9", "! best 0 = -8", "off 1 -7 = 8", "! best 0 = -7", "off 1 0 = -7",
            "! best 0 = 0", "off 1 999 = 0", "! best 0 = -9", "of 0 3 = 500");
        // Both must COME at one minute, for v 9 to hear: by just one OFF of 0.
        int[][] alone = {{50, -9}, {51, 9}, {52, 8}, {59, 1}, {60, 0}, {61, -1}, {68, -8}, {69, -9}, {70, -9}};
        for (int[] a : alone) {
            s.tell("BEST: -9 .. 9, by just one", "person 0 9 10 0 = 0", "person 0 9 " + a[0] + " 50 = 1",
                "text lag 5 p<2", "town = 0", "! best 0 = " + a[1]);
        }
        // SLOW goes 30 toward 0; what is nearer to 0 than that is all alike.
        s.tell("BEST: behind 30 DAYS", "person 5 9 0 0 = 0", "person 4 0 0 36 = 1", "text lag 5 p=0", "town = 0",
            "! best 0 = -6", "off 1 35 = 36", "! best 0 = -5", "off 1 37 = 35", "! best 0 = -7");
    }

    private static void when() {
        s.tell("16: NONE", "! when 0 = NONE", "person 0 0 0 0 = 0", "! when 1 = NONE", "! when -1 = NONE",
            "! when MIN = NONE", "! when MAX = NONE", "! when 0 = 0", "5x person 0 0 0 0", "when 5 = 0",
            "! when 6 = NONE");
        for (int u = 0; u <= 9; u++) {
            s.tell("WHEN: the multiple of 10, 0 .. 90", "person 0 0 55 0 = 0", "person 0 0 0 4 = 1",
                "text lag 5 p=0&u=" + u, "town = 0", "! when 0 = " + 10 * u, "of 0 2 = 55");
        }
        s.tell("WHEN: of several the least", "person 0 0 55 0 = 0", "person 0 0 0 4 = 1", "text lag 5 p=0&u>3",
            "town = 0", "! when 0 = 40", "text lag 5 p=0&u=3|p=0&u=7", "town = 1", "! when 0 = 30",
            "text lag 5 p=0&u>9", "town = 2", "! when 0 = 0");
        s.tell("WHEN: SPREAD, not WRONG", "person 5 9 0 5 = 0", "person 0 0 0 -5 = 1", "text lag 5 p=0&u=4", "town = 0",
            "! when 0 = 40");
        // With u 2 it rings 26, 27, 27 times in 29, 30, 31 DAYS, with u 5 27, 27, 28 times.
        s.tell("WHEN: behind 30 DAYS", "person 5 9 0 0 = 0", "person 4 0 0 40 = 1",
            "text lag 5 p=0&u=2&!d=0;lag 5 p=0&u=5&!d=9", "town = 0", "! when 0 = 20", "due 0 20 = 0", "on 29 1 = 14",
            "on 30 1 = 13", "on 31 1 = 13", "due 0 50 = 20", "on 29 1 = 13", "on 30 1 = 13", "on 31 1 = 12");
    }

    private static void apart() {
        // 1 goes 9 beyond 0, when 0 rings, which it does on the one DAY on which its OFF is 0.
        String[] past = {"person 5 9 0 -59 = 0", "person 6 0 0 -59 = 1", "row 1 0 9 = 0", "row 1 1 9 = 0",
            "row 1 2 9 = 0", "row 1 3 9 = 0", "text fast 1;lag 5 p=0&o=0", "town = 0"};
        s.tellBehind("APART: n 0 .. 60, behind any of 0 .. n", past, "! apart 0 1 -1 = BAD", "! apart 0 1 61 = BAD",
            "! apart 0 1 MIN = BAD", "! apart 0 1 MAX = BAD", "! apart 0 1 0 = 0", "! apart 0 1 59 = 0",
            "! apart 0 1 60 = 9", "! apart 1 0 60 = 9", "off 0 -60 = -59", "! apart 0 1 60 = 1", "off 1 -80 = -59",
            "! apart 0 1 0 = 20", "off 0 0 = -60", "off 1 70 = -80", "apart 0 1 0 = 70", "apart 0 1 1 = 70",
            "on 1 1 = 9");
        s.tellBehind("17: NONE", past, "! apart 2 0 1 = NONE", "! apart 0 2 1 = NONE", "! apart -1 0 1 = NONE",
            "! apart 0 -1 1 = NONE", "! apart MIN MAX 1 = NONE", "! apart 0 MAX 1 = NONE");
        s.tellBehind("17: BAD, one is both", past, "! apart 0 0 1 = BAD", "! apart 1 1 0 = BAD",
            "! apart 1 1 61 = BAD");
        s.tellBehind("17: NONE ahead of BAD", past, "! apart 2 2 1 = NONE", "! apart 0 2 61 = NONE",
            "! apart 2 0 -1 = NONE", "! apart -1 -1 -1 = NONE");
        s.tell("17: the sixth is the last", "6x person 0 0 0 0", "off 5 -999 = 0", "off 4 999 = 0",
            "apart 4 5 0 = 1998", "! apart 5 6 0 = NONE", "! apart 6 5 0 = NONE", "apart 0 5 60 = 999");
    }

    private static void who() {
        String[] past = {"person 5 9 0 -40 = 0", "person 5 9 0 -39 = 1", "text fast 1;lag 5 o=0", "town = 0"};
        s.tellBehind("WHO: n 0 .. 40, 0 is the next DAY", past, "! who 5 -1 = BAD", "! who 5 41 = BAD",
            "! who 5 MIN = BAD", "! who 5 MAX = BAD", "! who 5 40 = 1", "! who 5 39 = 2", "! who 5 38 = 0",
            "! who 5 0 = 0", "off 0 0 = -40", "! who 5 0 = 1", "! who 5 1 = 0");
        String[] rung = {"6x person 5 0 0 0", "text lag 1 p=0;lag 99 p=1;lag 50 p=2;lag 50 p=3;lag 98 p=4", "town = 0"};
        s.tellBehind("WHO: r 1 .. 99", rung, "! who 0 0 = BAD", "! who 100 0 = BAD", "! who -1 0 = BAD",
            "! who MIN 0 = BAD", "! who MAX 0 = BAD", "! who 1 0 = 1", "! who 99 0 = 2", "! who 98 0 = 16",
            "of 2 7 = 100", "! who 50 0 = 0", "off 3 1 = 0", "! who 50 0 = 12", "! who 2 0 = 0");
        s.tellBehind("WHO: as bits, all six", new String[] {"6x person 5 0 0 0", "text lag 16 p<6", "town = 0"},
            "! who 96 0 = 63", "off 5 1 = 0", "! who 80 0 = 31", "! who 16 0 = 32", "away 5 true = 0",
            "! who 16 0 = 0");
        s.tell("18: nobody is there", "who 1 0 = 0", "who 99 40 = 0", "who 0 0 = BAD", "who 1 41 = BAD");
        s.tell("WHO: none who is no longer there", "image = 0", "person 5 0 0 0 = 0", "person 5 0 0 0 = 1",
            "text lag 5 p<9", "town = 0", "who 10 0 = 3", "undo = 0", "text lag 5 p<9", "town = 1", "who 10 0 = 0",
            "who 5 0 = 0", "person 5 0 0 0 = 0", "who 5 0 = 1", "who 10 0 = 0");
    }
}
