/** Promises 28 to 38: judging, THE IMAGE, ACTS, counts, TAPES. */
public final class RestTest {
    private static final Checks c = new Checks("RestTest");
    private static final long NO = Long.MIN_VALUE;

    public static void main(String[] args) {
        judge();
        image();
        imageOfTown();
        act();
        actOfTold();
        taken();
        count();
        tape();
        item();
        shift();
        c.end();
    }

    private static void judge() {
        PealOfExcuses x = new PealOfExcuses();
        c.due("tape -1", x.judge(-1, 0), -1);
        c.due("tape 6", x.judge(6, 0), -1);
        c.due("nobody", x.judge(0, 0), -5);
        c.due("nobody", x.judge(0, -1), -5);
        x.tape(1, 2, 5);
        c.due("ints", x.judge(1, 0), -12);
        x.tape(1, 0, 0);
        c.due("bytes", x.judge(1, -3), -12);
        x.tape(1, 3, 9);
        c.due("longs", x.judge(1, 99), -12);
        x.tape(1, 4, 9);
        c.due("booleans", x.judge(1, 0), -12);
        x.person(0, 0, 0, 3);
        x.person(0, 0, 0, -4);
        x.person(0, 0, 0, 5);
        c.due("nothing", x.judge(0, 0), 100);
        c.due("nothing", x.judge(0, -5), 100);
        x.tape(0, 1, 6);
        c.due("the first", x.judge(0, 0), 0);
        c.due("below 0", x.judge(0, -1), 100);
        c.due("below 0", x.judge(0, Integer.MIN_VALUE), 100);
        c.due("beyond", x.judge(0, 6), 100);
        c.due("beyond", x.judge(0, 7), 100);
        c.due("beyond", x.judge(0, Integer.MAX_VALUE), 100);
        x.item(0, 2, 3);
        x.item(0, 3, -4);
        c.due("the third", x.judge(0, 2), 2);
        x.item(0, 4, 5);
        c.due("none", x.judge(0, 2), -5);
        x.item(0, 5, 3);
        c.due("one looked at", x.judge(0, 5), 101);
        x.item(0, 4, 3);
        x.item(0, 5, -4);
        c.due("two looked at", x.judge(0, 4), 102);
        x.item(0, 5, -5);
        c.due("the second", x.judge(0, 4), 1);
        c.due("none left alone", x.judge(0, 3), 0);
        x.tape(0, 1, 3);
        x.item(0, 0, 3);
        x.item(0, 1, -4);
        x.item(0, 2, 5);
        c.due("up to the end", x.judge(0, 0), -5);
    }

    private static void image() {
        PealOfExcuses x = new PealOfExcuses();
        c.due("there is none", x.undo(), -3);
        x.person(6, 3, 21, 8);
        x.person(0, 1, 2, 3);
        x.row(0, 2, 7);
        x.away(1, true);
        x.see(0, 5, 6);
        x.week(0, 0);
        x.book(1, 3);
        x.pass(5);
        c.due("image", x.image(), 2);
        x.person(6, 4, 5, 6);
        x.row(2, 1, 8);
        x.row(0, 2, 9);
        x.row(0, 3, 9);
        x.off(0, 9);
        x.due(0, 9);
        x.away(1, false);
        x.away(2, true);
        x.see(0, 5, 6);
        x.week(-1, 0);
        x.book(2, 1);
        x.book(2, 1);
        x.pass(60);
        x.feed('l');
        x.tape(3, 1, 4);
        x.act(0, 1, 1);
        int ran = x.count(6);
        for (int again = 0; again < 2; again++) {
            c.due("undo", x.undo(), 2);
            int[] first = {6, 3, 21, 8, 0};
            int[] second = {0, 1, 2, 3, 1};
            for (int what = 0; what < 5; what++) {
                c.due("of(0, " + what + ")", x.of(0, what), first[what]);
                c.due("of(1, " + what + ")", x.of(1, what), second[what]);
            }
            c.due("nobody more", x.of(2, 0), -10001);
            c.due("DAY", x.told(0), 5);
            c.due("SEEN", x.count(2), 1);
            c.due("the WEEK", x.count(3), 1);
            c.due("the BOOK", x.count(4), 1);
            c.due("looked", x.looked(), -5);
            c.due("THE TEXT is as it is", x.count(5), 1);
            c.due("TAPES are as they are", x.read(3, 3), 0);
            c.due("THE TRACE is as it is", x.count(6), ran);
            c.due("ROW", x.row(0, 2, 0), 7);
            c.due("ROW", x.row(0, 3, 0), 0);
            x.off(0, 0);
            x.see(-1, 0, 0);
        }
        x.undo();
        c.due("a new one", x.person(6, 0, 0, 0), 2);
        c.due("of whom all is new", x.row(2, 1, 0), 0);
        c.due("who is not AWAY", x.of(2, 4), 0);
        c.due("a later image", x.image(), 3);
        c.due("undo", x.undo(), 3);
        x.see(-1, 0, 0);
        x.see(0, 8, 0);
        x.see(0, 8, 3);
        x.book(-1, 0);
        x.book(0, 8);
        x.book(1, 3);
        x.week(-1, 0);
        x.week(3, 0);
        x.week(3, 1);
        x.image();
        x.see(-1, 0, 0);
        x.see(1, 0, 1);
        x.see(1, 1, 1);
        x.book(-1, 0);
        x.book(0, 7);
        x.book(0, 7);
        x.week(-1, 0);
        x.week(1, 0);
        x.week(1, 0);
        x.undo();
        c.due("SEEN itself", x.was(0, 1), 8);
        c.due("SEEN itself", x.was(0, 0), 1);
        c.due("the BOOK itself", x.looked(), -5);
        c.due("the WEEK itself", x.gone(0), 0);
        c.due("THE TEXT of before", x.town(), -11);
        c.due("town", Checks.town(x, "fast 1"), 0);
        x.see(-1, 0, 0);
        x.see(0, 8, 3);
        x.row(2, 3, 6);
        x.image();
        x.see(-1, 0, 0);
        x.see(0, 8, 5);
        x.row(2, 3, 1);
        x.undo();
        c.due("SEEN behind its DAYS", x.was(0, 1), 5);
        c.due("the last ROW", x.row(2, 3, 0), 6);
    }

    private static void imageOfTown() {
        PealOfExcuses x = new PealOfExcuses();
        c.due("image of nobody", x.image(), 0);
        Checks.town(x, "fast 3;loud 7");
        c.due("undo", x.undo(), 0);
        c.due("no TOWN holds", x.told(1), 0);
        c.due("no TOWN holds", x.told(2), 5);
        c.due("but there is one", x.count(1), 1);
        c.due("the next", Checks.town(x, "fast 4"), 1);
        x.image();
        Checks.town(x, "fast 5");
        c.due("FAST", x.told(1), 5);
        x.undo();
        c.due("FAST", x.told(1), 4);
        c.due("how many", x.count(1), 3);
        c.due("the next", Checks.town(x, "fast 6"), 3);
        c.due("FAST", x.told(1), 6);
    }

    private static void acted(PealOfExcuses x, int person, int act, int want, int... bodies) {
        String call = "act(" + person + ", " + act + ", 10)";
        c.due(call, x.act(person, act, 10), want);
        c.due(call + " bodies", x.count(6), bodies.length);
        for (int k = 0; k < bodies.length; k++) {
            c.due(call + " trace(" + k + ")", x.trace(k), bodies[k]);
        }
        c.due(call + " trace beyond", x.trace(bodies.length), -1);
    }

    private static void act() {
        PealOfExcuses x = new PealOfExcuses();
        c.due("nobody", x.act(0, 0, 0), 0);
        int[] vs = {3, 2, 1, 4, 5, 6};
        for (int p = 0; p < 6; p++) {
            x.person(p, vs[p], 0, 0);
        }
        acted(x, 0, 0, 10, 10);
        acted(x, 0, 1, 7, 11, 10);
        acted(x, 0, 2, 14, 12, 11, 10);
        acted(x, 1, 0, 11, 10);
        acted(x, 1, 1, 15, 20, 11, 10);
        acted(x, 1, 2, 30, 12, 20, 11, 10);
        acted(x, 2, 0, 32, 30, 10);
        acted(x, 2, 1, 31, 11, 30, 10);
        acted(x, 2, 2, 62, 12, 11, 30, 10);
        acted(x, 3, 0, 13, 10);
        acted(x, 3, 1, 9, 11, 10);
        acted(x, 3, 2, 18, 40, 12, 11, 10, 11, 10);
        acted(x, 4, 0, -14, 50, 10);
        acted(x, 4, 1, -22, 51, 20, 11, 50, 10);
        acted(x, 4, 2, -44, 12, 51, 20, 11, 50, 10);
        acted(x, 5, 0, 35, 30, 10);
        acted(x, 5, 1, 29, 11, 30, 10);
        acted(x, 5, 2, 28, 60, 12, 11, 30, 10);
        c.due("trace -1", x.trace(-1), -1);
        c.due("trace MIN", x.trace(Integer.MIN_VALUE), -1);
        c.due("trace 20", x.trace(20), -1);
        c.due("wrapping", x.act(1, 0, Integer.MAX_VALUE), Integer.MIN_VALUE);
        c.due("wrapping", x.act(2, 0, 0x60000000), 0x20000002);
        c.due("wrapping", x.act(0, 1, Integer.MIN_VALUE), Integer.MAX_VALUE - 2);
        c.due("wrapping", x.act(0, 2, 0x40000003), Integer.MIN_VALUE);
        c.due("wrapping", x.act(4, 0, Integer.MIN_VALUE), -(Integer.MIN_VALUE + 4));
        int[][] none = {{6, 0}, {-1, 0}, {0, 3}, {0, -1}};
        for (int[] one : none) {
            x.act(3, 2, 1);
            c.due("bodies", x.count(6), 6);
            c.due("none", x.act(one[0], one[1], 5), 0);
            c.due("no TRACE then", x.trace(0), -1);
            c.due("no bodies then", x.count(6), 0);
        }
    }

    private static void actOfTold() {
        PealOfExcuses x = new PealOfExcuses();
        x.person(0, 9, 0, 0);
        x.person(6, 5, 0, 0);
        x.person(3, 2, 0, 0);
        acted(x, 1, 0, 14, 71, 10);
        acted(x, 1, 1, 12, 70, 11, 71, 10, 10);
        acted(x, 1, 2, 29, 40, 12, 70, 11, 71, 10, 10, 70, 11, 71, 10, 10);
        // super.tells: (10 + 2 - 2) * 2; rings(1): 1 + 2 - 2
        acted(x, 2, 2, 21, 40, 12, 11, 10, 11, 10);
    }

    private static void taken() {
        PealOfExcuses x = new PealOfExcuses();
        c.due("nobody", x.taken(0, 0), -11);
        c.due("k ahead of nobody", x.taken(0, 7), -2);
        c.due("k ahead of nobody", x.taken(9, -1), -2);
        boolean[][] under = {
            {true, false, false, false, false, false, false},
            {true, true, false, false, false, false, false},
            {true, false, true, false, false, false, false},
            {true, false, false, true, false, false, false},
            {true, true, false, false, true, false, false},
            {true, false, true, false, false, true, false},
            {true, false, false, true, false, false, true}};
        for (int kind = 0; kind < 7; kind++) {
            PealOfExcuses y = new PealOfExcuses();
            y.person(kind, 0, 0, 0);
            for (int k = 0; k < 7; k++) {
                c.due("taken of " + kind + " for " + k, y.taken(0, k), under[kind][k] ? kind : -12);
            }
            c.due("k 7", y.taken(0, 7), -2);
            c.due("k -1", y.taken(0, -1), -2);
            c.due("person 1", y.taken(1, 0), -11);
            c.due("person -1", y.taken(-1, 0), -11);
        }
    }

    private static void count() {
        PealOfExcuses x = new PealOfExcuses();
        c.due("count(-1)", x.count(-1), -2);
        c.due("count(7)", x.count(7), -2);
        x.person(0, 0, 0, 0);
        x.person(0, 0, 0, 0);
        Checks.town(x, "fast 1");
        x.see(0, 0, 0);
        x.see(0, 0, 0);
        x.see(0, 0, 0);
        for (int k = 0; k < 4; k++) {
            x.week(0, 0);
        }
        for (int k = 0; k < 5; k++) {
            x.book(0, 0);
        }
        for (int k = 0; k < 6; k++) {
            x.feed('f');
        }
        x.act(0, 2, 1);
        int[] want = {2, 1, 3, 4, 5, 6, 3};
        for (int what = 0; what < 7; what++) {
            c.due("count(" + what + ")", x.count(what), want[what]);
        }
    }

    private static void tape() {
        PealOfExcuses x = new PealOfExcuses();
        for (int sort = 0; sort <= 4; sort++) {
            c.due("tape", x.tape(sort, sort, 60), 1);
            c.due("all 0", x.read(sort, 0), 0);
            c.due("all 0", x.read(sort, 59), 0);
            c.due("no more", x.read(sort, 60), NO);
            c.due("item", x.item(sort, 59, 1), 1);
            c.due("read", x.read(sort, 59), 1);
            x.item(sort, 0, 1);
            c.due("anew", x.tape(sort, sort, 60), 1);
            c.due("all 0", x.read(sort, 0), 0);
            c.due("all 0", x.read(sort, 59), 0);
        }
        c.due("none", x.tape(5, 0, 0), 1);
        c.due("no such place", x.read(5, 0), NO);
        c.due("no such place", x.item(5, 0, 1), -13);
        c.due("nothing", x.tape(5, -1, -99), 1);
        c.due("nothing there", x.item(5, 0, 1), -11);
        c.due("nothing there", x.read(5, 0), NO);
        c.due("nothing", x.tape(5, -1, 99), 1);
        c.due("tape 6", x.tape(6, 9, 99), -1);
        c.due("tape -1", x.tape(-1, -1, 0), -1);
        c.due("sort 5", x.tape(0, 5, -1), -2);
        c.due("sort -2", x.tape(0, -2, 0), -2);
        c.due("n 61", x.tape(0, 0, 61), -2);
        c.due("n -1", x.tape(0, 0, -1), -14);
        c.due("n MIN", x.tape(0, 0, Integer.MIN_VALUE), -14);
        c.due("it stays", x.read(0, 59), 0);
        c.due("shorter", x.tape(0, 1, 2), 1);
        c.due("shorter", x.read(0, 2), NO);
        c.due("read", x.read(0, 1), 0);
    }

    private static void item() {
        PealOfExcuses x = new PealOfExcuses();
        long[] put = {0, 1, -1, 127, 128, 255, 256, 32767, 32768, 70000, 2147483647L, 2147483648L, 4294967296L,
            9999999999L, Long.MAX_VALUE, Long.MIN_VALUE, -129, -32769};
        for (int sort = 0; sort <= 4; sort++) {
            x.tape(sort, sort, 3);
            for (long v : put) {
                c.due("item", x.item(sort, 1, v), 1);
                long want = sort == 0 ? (byte) v : sort == 1 ? (short) v : sort == 2 ? (int) v : v;
                if (sort == 4) {
                    want = v == 0 ? 0 : 1;
                }
                c.due("sort " + sort + " of " + v, x.read(sort, 1), want);
                c.due("its neighbour", x.read(sort, 0), 0);
                c.due("its neighbour", x.read(sort, 2), 0);
            }
        }
        c.due("200 as a byte", x.item(0, 0, 200), 1);
        c.due("200 as a byte", x.read(0, 0), -56);
        x.item(1, 0, 70000);
        c.due("70000 as a short", x.read(1, 0), 4464);
        x.item(2, 0, 9999999999L);
        c.due("9999999999 as an int", x.read(2, 0), 1410065407);
        c.due("place -1", x.item(0, -1, 0), -13);
        c.due("place 3", x.item(0, 3, 0), -13);
        c.due("place MAX", x.item(0, Integer.MAX_VALUE, 0), -13);
        c.due("nothing", x.item(5, 3, 0), -11);
        c.due("tape 6", x.item(6, 0, 0), -1);
        c.due("tape -1", x.item(-1, -1, 0), -1);
        c.due("read -1", x.read(0, -1), NO);
        c.due("read 3", x.read(0, 3), NO);
        c.due("read nothing", x.read(5, 0), NO);
        c.due("read tape 6", x.read(6, 0), NO);
        c.due("read tape -1", x.read(-1, 0), NO);
    }

    private static void row(PealOfExcuses x, int tape, int... want) {
        for (int k = 0; k < want.length; k++) {
            c.due("read(" + tape + ", " + k + ")", x.read(tape, k), want[k]);
        }
    }

    private static void shift() {
        PealOfExcuses x = new PealOfExcuses();
        x.tape(0, 2, 5);
        x.tape(1, 2, 3);
        x.tape(2, 1, 5);
        for (int k = 0; k < 5; k++) {
            x.item(0, k, k + 1);
        }
        c.due("to another", x.shift(0, 1, 1, 0, 3), 3);
        row(x, 1, 2, 3, 4);
        row(x, 0, 1, 2, 3, 4, 5);
        c.due("up", x.shift(0, 0, 0, 1, 4), 4);
        row(x, 0, 1, 1, 2, 3, 4);
        c.due("down", x.shift(0, 1, 0, 0, 4), 4);
        row(x, 0, 1, 2, 3, 4, 4);
        c.due("back", x.shift(1, 2, 0, 4, 1), 1);
        row(x, 0, 1, 2, 3, 4, 4);
        c.due("none at the ends", x.shift(0, 5, 1, 3, 0), 0);
        c.due("none beyond", x.shift(0, 6, 1, 3, 0), -13);
        c.due("none beyond", x.shift(0, 5, 1, 4, 0), -13);
        c.due("n below 0", x.shift(0, 0, 1, 0, -1), -13);
        c.due("i below 0", x.shift(0, -1, 1, 0, 1), -13);
        c.due("j below 0", x.shift(0, 0, 1, -1, 1), -13);
        c.due("beyond its end", x.shift(0, 3, 1, 0, 3), -13);
        c.due("beyond the other's", x.shift(0, 0, 1, 1, 3), -13);
        c.due("too many", x.shift(0, 0, 1, 0, 4), -13);
        c.due("wrapping", x.shift(0, Integer.MAX_VALUE, 1, 0, Integer.MAX_VALUE), -13);
        c.due("wrapping", x.shift(0, 1, 1, 1, Integer.MAX_VALUE), -13);
        c.due("wrapping", x.shift(0, Integer.MAX_VALUE, 1, Integer.MAX_VALUE, 1), -13);
        c.due("wrapping", x.shift(0, 1, 1, 1, Integer.MIN_VALUE), -13);
        c.due("unlike sorts", x.shift(0, -1, 2, 0, 1), -12);
        c.due("nothing", x.shift(0, -1, 5, 0, 1), -11);
        c.due("nothing", x.shift(5, 0, 0, 0, 1), -11);
        c.due("nothing and nothing", x.shift(5, 0, 5, 0, 0), -11);
        c.due("tape 6", x.shift(6, 0, 5, 0, 1), -1);
        c.due("tape 6", x.shift(5, 0, 6, 0, 1), -1);
        c.due("tape -1", x.shift(-1, 0, 0, 0, 1), -1);
        c.due("tape -1", x.shift(0, 0, -1, 0, 1), -1);
        row(x, 0, 1, 2, 3, 4, 4);
        row(x, 1, 2, 3, 4);
        x.tape(3, 4, 2);
        x.tape(4, 4, 2);
        x.item(3, 1, 7);
        c.due("booleans", x.shift(3, 1, 4, 0, 1), 1);
        row(x, 4, 1, 0);
    }
}
