/** Promises 11 to 18: how DAYS go, and what is asked of those to come. */
public final class DaysTest {
    private static final Checks c = new Checks("DaysTest");

    public static void main(String[] args) {
        setsByKind();
        setsOfVain();
        setsOfTold();
        order();
        awayOnes();
        held();
        pass();
        on();
        settles();
        agree();
        right();
        prompt();
        best();
        when();
        apart();
        who();
        c.end();
    }

    /** OFF of one behind a DAY on which one whose OFF is o rings r minutes. */
    private static int set(int kind, int v, int off, int o, int r, int loud) {
        PealOfExcuses x = new PealOfExcuses();
        x.person(0, 9, 0, o);
        x.person(kind, v, 50, off);
        c.due("town", Checks.town(x, "lag " + r + " p=0;loud " + loud), 0);
        c.due("pass", x.pass(1), Math.max(Math.abs(o), Math.abs(x.of(1, 3))));
        c.due("who rings", x.of(0, 3), o);
        return x.of(1, 3);
    }

    private static void setsByKind() {
        // kind, v, off, o, r, loud, what OFF becomes
        int[][] rows = {
            {0, 6, 3, 20, 6, 9, 20}, {0, 7, 3, 20, 6, 0, 3}, {0, 0, 3, -20, 1, 9, -20}, {0, 9, 3, 3, 99, 9, 3},
            {1, 6, 3, 20, 6, 9, 11}, {1, 7, 3, 20, 6, 0, 3}, {1, 0, 25, 20, 6, 9, 23}, {1, 0, 19, 20, 6, 9, 19},
            {1, 0, 21, 20, 6, 9, 21}, {1, 0, 18, 20, 6, 9, 19}, {1, 0, -3, 4, 6, 9, 0}, {1, 0, 3, -4, 6, 9, 0},
            {2, 0, 3, 20, 6, 6, 20}, {2, 0, 3, 20, 6, 7, 3}, {2, 7, 3, 20, 6, 5, 3}, {2, 6, 3, 20, 6, 5, 20},
            {2, 0, 3, 20, 6, 0, 20},
            {3, 6, 3, 20, 6, 9, 20}, {3, 7, 3, 20, 6, 0, 3},
            {4, 6, 3, 20, 6, 9, 4}, {4, 7, 3, 20, 6, 0, 3}, {4, 0, 30, 20, 6, 9, 29}, {4, 0, 19, 20, 6, 9, 19},
            {4, 0, 18, 20, 6, 9, 19}, {4, 0, 22, 20, 6, 9, 21}, {4, 0, 21, 20, 6, 9, 21}, {4, 0, 20, 20, 6, 9, 20},
            {5, 0, 3, 20, 99, 0, 3},
            {6, 6, 3, 20, 6, 9, 20}, {6, 7, 3, 20, 6, 0, 3}};
        for (int[] w : rows) {
            c.due("kind " + w[0] + " v " + w[1] + " off " + w[2] + " by " + w[3] + " of " + w[4] + " loud " + w[5],
                set(w[0], w[1], w[2], w[3], w[4], w[5]), w[6]);
        }
        PealOfExcuses x = new PealOfExcuses();
        x.person(0, 9, 0, 20);
        x.person(2, 0, 50, 3);
        Checks.town(x, "lag 4 p=0");
        x.pass(1);
        c.due("LOUD is 5 without", x.of(1, 3), 3);
        Checks.town(x, "lag 5 p=0");
        x.pass(1);
        c.due("LOUD is 5 without", x.of(1, 3), 20);
    }

    private static void setsOfVain() {
        for (int kind = 3; kind <= 6; kind += 3) {
            PealOfExcuses x = new PealOfExcuses();
            x.person(kind, 0, 0, 1);
            x.person(0, 9, 0, 20);
            x.person(kind, 0, 0, 2);
            Checks.town(x, "lag 9 p=1");
            x.pass(1);
            c.due("only of lesser numbers", x.of(0, 3), 1);
            c.due("only of lesser numbers", x.of(2, 3), 20);
        }
    }

    private static void setsOfTold() {
        PealOfExcuses x = new PealOfExcuses();
        x.person(0, 9, 0, -5);
        x.person(6, 0, 0, 0);
        x.person(6, 0, 0, 0);
        int[] rows = {3, 0, 9, 1};
        for (int part = 0; part < 4; part++) {
            x.row(1, part, rows[part]);
        }
        Checks.town(x, "lag 9 p=0");
        for (int day = 0; day < 9; day++) {
            x.pass(1);
            c.due("DAY " + day, x.of(1, 3), -5 + rows[day % 4]);
            c.due("a ROW of noughts", x.of(2, 3), -5);
        }
        PealOfExcuses y = new PealOfExcuses();
        y.person(0, 9, 0, 995);
        y.person(6, 0, 0, 0);
        y.row(1, 0, 9);
        y.row(1, 1, 4);
        y.row(1, 2, 3);
        Checks.town(y, "lag 9 p=0");
        int[] want = {999, 999, 998, 995};
        for (int day = 0; day < 4; day++) {
            y.pass(1);
            c.due("held", y.of(1, 3), want[day]);
        }
    }

    private static void order() {
        PealOfExcuses x = new PealOfExcuses();
        x.person(0, 0, 50, 0);
        x.person(0, 0, 10, 5);
        x.person(0, 0, 0, 9);
        Checks.town(x, "lag 5 p<2");
        c.due("the one who COMES first", x.pass(1), 5);
        for (int p = 0; p < 3; p++) {
            c.due("off " + p, x.of(p, 3), 5);
        }
        PealOfExcuses y = new PealOfExcuses();
        y.person(0, 0, 17, 7);
        y.person(0, 0, 13, 3);
        y.person(0, 9, 0, 1);
        y.person(0, 9, 13, 4);
        Checks.town(y, "lag 5 p<2;lag 2 p=3");
        y.pass(1);
        // 3 COMES at 11 and rings 2 minutes; 0 and 1, both OFF 4 then, at 15 and ring 10, which 2 hears.
        for (int p = 0; p < 4; p++) {
            c.due("off " + p, y.of(p, 3), 4);
        }
        PealOfExcuses z = new PealOfExcuses();
        z.person(0, 0, 17, 7);
        z.person(0, 0, 13, 3);
        z.person(0, 9, 0, 1);
        Checks.town(z, "lag 5 p<2");
        z.pass(1);
        for (int p = 0; p < 3; p++) {
            c.due("by their numbers, ringing together: " + p, z.of(p, 3), 7);
        }
        PealOfExcuses w = new PealOfExcuses();
        w.person(0, 0, 30, 0);
        w.person(1, 0, 20, 9);
        w.person(0, 9, 10, -9);
        Checks.town(w, "lag 5 p>0");
        // 2 COMES at 24: 0 goes to -9, 1 to 0; 1 COMES at 16 and is first by how all was ahead.
        w.pass(1);
        c.due("first 1, then 2", w.of(0, 3), -9);
        c.due("half way to 2", w.of(1, 3), 0);
        c.due("v 9", w.of(2, 3), -9);
        PealOfExcuses u = new PealOfExcuses();
        u.person(0, 9, 10, 0);
        u.person(0, 0, 11, 5);
        Checks.town(u, "lag 5 p=0;lag 2 p=1;haste 2 o<2&p=1");
        // 1 was late ahead of the DAY, and rings, though it has set its watch to be prompt by then.
        u.person(0, 0, 0, 3);
        c.due("COMES first", u.of(1, 6), 8);
        u.due(1, 30);
        u.pass(1);
        c.due("set by 0", u.of(1, 3), 0);
        c.due("set by 1, whose OFF is 0 then", u.of(2, 3), 0);
    }

    private static void awayOnes() {
        PealOfExcuses x = new PealOfExcuses();
        x.person(0, 9, 0, 20);
        x.person(0, 0, 0, 3);
        x.person(0, 0, 0, 4);
        Checks.town(x, "lag 9 p=0;fast 2");
        x.away(1, true);
        c.due("pass", x.pass(1), 22);
        c.due("is AWAY, but FAST", x.of(1, 3), 5);
        c.due("is not", x.of(2, 3), 22);
        x.away(0, true);
        x.away(1, false);
        x.off(2, 0);
        x.pass(3);
        c.due("nobody rings", x.of(1, 3), 11);
        c.due("nobody rings", x.of(2, 3), 6);
        c.due("is AWAY, but FAST", x.of(0, 3), 28);
        c.due("still AWAY", x.told(3), 1);
    }

    private static void held() {
        PealOfExcuses x = new PealOfExcuses();
        x.person(0, 0, 0, 950);
        x.person(0, 0, 0, -999);
        Checks.town(x, "fast 40");
        c.due("pass", x.pass(1), 990);
        c.due("pass", x.pass(1), 999);
        c.due("off", x.of(1, 3), -919);
        c.due("pass", x.pass(60), 999);
        c.due("off", x.of(1, 3), 999);
    }

    private static void pass() {
        PealOfExcuses x = new PealOfExcuses();
        x.person(0, 9, 0, 4);
        x.person(0, 0, 0, 0);
        Checks.town(x, "lag 5 p=0&d=0");
        c.due("pass -1", x.pass(-1), -2);
        c.due("pass 61", x.pass(61), -2);
        c.due("pass 0", x.pass(0), 4);
        for (int k = 1; k <= 166; k++) {
            c.due("pass 60", x.pass(60), 4);
        }
        c.due("DAY", x.told(0), 9960);
        c.due("pass 40", x.pass(40), -3);
        c.due("pass 60", x.pass(60), -3);
        c.due("pass 61 all the same", x.pass(61), -2);
        c.due("DAY", x.told(0), 9960);
        c.due("pass 39", x.pass(39), 4);
        c.due("DAY", x.told(0), 9999);
        c.due("pass 1", x.pass(1), -3);
        c.due("pass 0", x.pass(0), 4);
        x.off(1, 0);
        c.due("asked for beyond 9999: DAY 9999", x.on(1, 11), 0);
        c.due("asked for beyond 9999: DAY 10000", x.on(2, 11), 4);
        c.due("AGREE beyond 9999", x.until(1), 2);
        c.due("DAY", x.told(0), 9999);
    }

    private static void on() {
        PealOfExcuses x = new PealOfExcuses();
        x.person(0, 9, 0, 20);
        x.person(1, 0, 0, -4);
        Checks.town(x, "lag 9 p=0;fast 1");
        // 20, -4; 21, 9; 22, 16; 23, 20
        int[][] want = {{20, 24, 20, -4}, {21, 12, 21, 9}, {22, 6, 22, 16}, {23, 3, 23, 20}};
        for (int n = 0; n < 4; n++) {
            c.due("WRONG " + n, x.on(n, 0), want[n][0]);
            c.due("SPREAD " + n, x.on(n, 1), want[n][1]);
            c.due("OFF " + n, x.on(n, 10), want[n][2]);
            c.due("OFF " + n, x.on(n, 11), want[n][3]);
        }
        c.due("60", x.on(60, 10), 80);
        c.due("61", x.on(61, 10), -10002);
        c.due("-1", x.on(-1, 0), -10002);
        int[] none = {-1, 2, 9, 12, 15, 16, -2, Integer.MIN_VALUE, Integer.MAX_VALUE, -10};
        for (int what : none) {
            c.due("what " + what, x.on(0, what), -10001);
            c.due("what ahead of n " + what, x.on(61, what), -10001);
        }
        c.due("nothing went", x.told(0), 0);
        c.due("nothing went", x.of(1, 3), -4);
    }

    private static PealOfExcuses pair(int kind, int offOfRinger, int offOfOther, String town) {
        PealOfExcuses x = new PealOfExcuses();
        x.person(0, 9, 0, offOfRinger);
        x.person(kind, 0, 0, offOfOther);
        c.due("town", Checks.town(x, town), 0);
        return x;
    }

    private static void settles() {
        c.due("set once", pair(0, 4, 0, "lag 5 p=0").until(0), 1);
        c.due("FAST is no SETTING", pair(0, 4, 0, "lag 5 p=0;fast 1").until(0), 1);
        c.due("as it is", pair(0, 4, 4, "lag 5 p=0").until(0), 0);
        c.due("nobody rings", pair(0, 4, 0, "fast 9").until(0), 0);
        c.due("not on this DAY", pair(0, 4, 0, "lag 5 p=0&d>0").until(0), 0);
        c.due("on DAY 60", pair(4, 61, 0, "lag 5 p=0").until(0), 60);
        c.due("on DAY 61", pair(4, 62, 0, "lag 5 p=0").until(0), -5);
        PealOfExcuses x = new PealOfExcuses();
        x.person(0, 9, 0, 3);
        x.person(0, 9, 20, 4);
        x.person(0, 0, 0, 4);
        Checks.town(x, "lag 5 p<2");
        c.due("there and back", x.until(0), -5);
        c.due("what -1", x.until(-1), -1);
        c.due("what 3", x.until(3), -1);
    }

    private static void agree() {
        c.due("now", pair(0, 4, 4, "fast 1").until(1), 0);
        c.due("set once", pair(0, 4, 0, "lag 5 p=0").until(1), 1);
        c.due("never", pair(4, 4, 0, "lag 5 p=0").until(1), -5);
        c.due("behind 60", pair(0, 0, -7, "fast 1;lag 5 p=0&o=59").until(1), 60);
        c.due("behind 61", pair(0, 0, -7, "fast 1;lag 5 p=0&o=60").until(1), -5);
    }

    private static void right() {
        PealOfExcuses x = new PealOfExcuses();
        x.person(0, 0, 0, -60);
        Checks.town(x, "fast 1");
        c.due("behind 60", x.until(2), 60);
        x.off(0, -61);
        c.due("behind 61", x.until(2), -5);
        x.off(0, 0);
        c.due("now", x.until(2), 0);
        x.off(0, 1);
        c.due("never", x.until(2), -5);
        c.due("all agree", pair(0, -3, -3, "fast 1").until(2), 3);
        c.due("all agree, but never right", pair(0, 4, 0, "lag 5 p=0").until(2), -5);
        c.due("not all", pair(5, -3, -4, "fast 1").until(2), -5);
    }

    private static void prompt() {
        PealOfExcuses x = new PealOfExcuses();
        c.due("nobody", x.prompt(), -5);
        x.person(0, 0, 10, 8);
        x.person(0, 0, 20, 2);
        Checks.town(x, "lag 5 p<2");
        c.due("who comes first", x.prompt(), 0);
        x.pass(1);
        c.due("not better than it is", x.prompt(), -5);
        PealOfExcuses y = new PealOfExcuses();
        y.person(0, 0, 18, 8);
        y.person(0, 0, 18, 8);
        y.person(0, 6, 40, 0);
        Checks.town(y, "lag 3 p<2;lag 9 p=2");
        c.due("the first of two", y.prompt(), 0);
        c.due("behind 30 as it is", y.on(30, 0), 8);
        c.due("LAG is as it was", y.of(0, 5), 3);
        c.due("LAG is as it was", y.of(2, 5), 9);
        PealOfExcuses z = new PealOfExcuses();
        z.person(0, 0, 40, 0);
        z.person(0, 0, 10, 8);
        z.person(0, 0, 20, 9);
        Checks.town(z, "lag 5 p<9");
        // as it is: 1 COMES at 7, all become 8; 1 prompt: 2 COMES at 16, all become 9; others: 8.
        c.due("nobody", z.prompt(), -5);
        PealOfExcuses w = new PealOfExcuses();
        w.person(0, 0, 40, 0);
        w.person(0, 9, 10, 3);
        w.person(0, 0, 20, 9);
        Checks.town(w, "lag 5 p=2;lag 3 p=0;haste 3 p=1");
        // as it is: 2 COMES at 16, 0 becomes 9; 2 prompt: 0 rings at 43, 2 becomes 0, and 1 keeps 3.
        c.due("the last", w.prompt(), 2);
        PealOfExcuses month = new PealOfExcuses();
        month.person(0, 9, 0, -20);
        month.person(0, 0, 0, 0);
        Checks.town(month, "lag 5 p=0;fast 1");
        // -20 + 30 is 10 for both; prompt 0: 1 is 30.
        c.due("behind 30", month.prompt(), -5);
        c.due("WRONG behind 30", month.on(30, 0), 10);
        month.off(0, 10);
        c.due("no better", month.prompt(), -5);
        month.off(1, -10);
        c.due("no better for 0", month.prompt(), -5);
    }

    private static void best() {
        PealOfExcuses x = new PealOfExcuses();
        c.due("nobody", x.best(0), -10001);
        x.person(0, 0, 0, 500);
        c.due("alone", x.best(0), 0);
        Checks.town(x, "fast 1");
        c.due("as far behind as it goes", x.best(0), -9);
        c.due("OFF stays", x.of(0, 3), 500);
        x.person(5, 0, 0, -25);
        // behind 30 DAYS 1 is 5 ahead; 0 is never that near.
        c.due("as far behind as it goes", x.best(0), -9);
        Checks.town(x, "fast 0;loud 1");
        x.off(1, 5);
        c.due("the least of those to 5", x.best(0), -5);
        x.off(1, -3);
        c.due("the least of those to 3", x.best(0), -3);
        x.off(1, 0);
        x.off(0, 9);
        c.due("the least of those to 9", x.best(1), -9);
        x.off(0, 12);
        c.due("all alike", x.best(1), -9);
        PealOfExcuses y = pair(0, 0, 50, "lag 5 p=0&o=7");
        c.due("by which it is heard, ahead or behind", y.best(0), -7);
        c.due("-10001", y.best(2), -10001);
        c.due("-10001", y.best(-1), -10001);
        // Both come at one minute, and so are heard by v 9, by one OFF alone.
        int[][] alone = {{51, 9}, {52, 8}, {68, -8}, {69, -9}, {50, -9}, {70, -9}};
        for (int[] a : alone) {
            PealOfExcuses z = new PealOfExcuses();
            z.person(0, 9, 10, 0);
            z.person(0, 9, a[0], 50);
            Checks.town(z, "lag 5 p<2");
            c.due("DUE " + a[0], z.best(0), a[1]);
        }
        PealOfExcuses month = new PealOfExcuses();
        month.person(0, 0, 0, 0);
        Checks.town(month, "haste 1 p=0;fast 0");
        c.due("alone", month.best(0), 0);
        PealOfExcuses slow = pair(4, 0, 40, "lag 5 p=0");
        // 40 goes 30 towards o: 10 for any o below; 0 is -9 then 10; all to 9 are alike.
        c.due("30 DAYS", slow.best(0), -9);
        slow.off(1, 36);
        // behind 30 DAYS 1 is 6, so o may be -6 .. 6.
        c.due("30 DAYS", slow.best(0), -6);
    }

    private static void when() {
        PealOfExcuses x = pair(0, 0, 4, "lag 5 u=3");
        c.due("in the thirties", x.when(0), 30);
        c.due("in the thirties", x.when(1), 0);
        x.away(0, true);
        c.due("nobody: all alike", x.when(0), 0);
        c.due("DUE stays", x.of(0, 2), 0);
        c.due("nobody", x.when(2), -1);
        c.due("nobody", x.when(-1), -1);
        c.due("nobody", new PealOfExcuses().when(0), -1);
        PealOfExcuses y = pair(0, 0, 4, "lag 5 u=9&p=0");
        c.due("90", y.when(0), 90);
        c.due("when is not asked of 1", y.when(1), 0);
        PealOfExcuses z = new PealOfExcuses();
        z.person(0, 0, 45, 0);
        z.person(0, 9, 45, 8);
        z.person(0, 9, 48, 3);
        Checks.town(z, "lag 5 p=1;lag 5 p=2");
        // 1 rings at 42 and 2 at 50; v 9 of 2 is set when both come at one minute: 1 DUE at 53, which it can't be.
        c.due("none of the tens", z.when(1), 0);
        z.due(2, 55);
        // 2 COMES at 57; 1 does so if DUE at 60: both ring 10 minutes, and 2 becomes 8.
        c.due("at one minute", z.when(1), 60);
        PealOfExcuses slow = pair(4, 0, 40, "lag 5 u=2;fast 1");
        c.due("SPREAD, not WRONG", slow.when(0), 20);
    }

    private static void apart() {
        PealOfExcuses x = new PealOfExcuses();
        x.person(0, 9, 0, 0);
        x.person(6, 0, 0, 0);
        x.person(4, 0, 0, 10);
        int[] rows = {3, 7, 0, 1};
        for (int part = 0; part < 4; part++) {
            x.row(1, part, rows[part]);
        }
        Checks.town(x, "lag 9 p=0;fast 1");
        int[] most = {0, 3, 7, 7, 7};
        for (int n = 0; n < 5; n++) {
            c.due("apart(0, 1, " + n + ")", x.apart(0, 1, n), most[n]);
            c.due("apart(1, 0, " + n + ")", x.apart(1, 0, n), most[n]);
        }
        c.due("60", x.apart(0, 1, 60), 7);
        c.due("now", x.apart(0, 2, 60), 10);
        c.due("now", x.apart(2, 1, 0), 10);
        c.due("n 61", x.apart(0, 1, 61), -2);
        c.due("n -1", x.apart(0, 1, -1), -2);
        c.due("both", x.apart(1, 1, 5), -2);
        c.due("NONE ahead of BAD", x.apart(3, 3, 61), -1);
        c.due("-1", x.apart(-1, 0, 1), -1);
        c.due("3", x.apart(0, 3, 1), -1);
        c.due("-1", x.apart(0, -1, 1), -1);
        c.due("nothing went", x.told(0), 0);
    }

    private static void who() {
        PealOfExcuses x = new PealOfExcuses();
        x.person(5, 0, 10, 0);
        x.person(5, 0, 10, 0);
        x.person(5, 0, 20, 0);
        x.person(5, 0, 30, 0);
        Checks.town(x, "lag 5 p<2;lag 5 p=3;lag 10 p=2;haste 5 d=1&p=1");
        c.due("10", x.who(10, 0), 7);
        c.due("5", x.who(5, 0), 8);
        c.due("10 on DAY 1", x.who(10, 1), 4);
        c.due("5 on DAY 1", x.who(5, 1), 9);
        c.due("10 on DAY 40", x.who(10, 40), 7);
        c.due("4", x.who(4, 0), 0);
        c.due("99", x.who(99, 0), 0);
        x.away(3, true);
        c.due("5, one AWAY", x.who(5, 0), 0);
        c.due("r 0", x.who(0, 0), -2);
        c.due("r 100", x.who(100, 0), -2);
        c.due("n -1", x.who(5, -1), -2);
        c.due("n 41", x.who(5, 41), -2);
        c.due("nothing went", x.told(0), 0);
        PealOfExcuses y = pair(0, 4, 0, "lag 5 p=0;lag 1 o=4");
        c.due("both by DAY 1", y.who(1, 1), 2);
        c.due("none on DAY 0", y.who(1, 0), 0);
        c.due("6 on DAY 0", y.who(6, 0), 1);
    }
}
