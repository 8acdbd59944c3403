/** Promises 2 to 8 and 10: PEOPLE, THE TEXT's signs, what is told. */
public final class PeopleTest {
    private static final Checks c = new Checks("PeopleTest");

    public static void main(String[] args) {
        person();
        ofPlain();
        ofMorning();
        off();
        due();
        away();
        row();
        feed();
        told();
        c.end();
    }

    private static void person() {
        PealOfExcuses x = new PealOfExcuses();
        c.due("kind -1", x.person(-1, 10, 100, 1000), -1);
        c.due("kind 7", x.person(7, 0, 0, 0), -1);
        c.due("v -1", x.person(0, -1, 0, 0), -2);
        c.due("v 10", x.person(0, 10, 0, 0), -2);
        c.due("due -1", x.person(0, 0, -1, 0), -2);
        c.due("due 100", x.person(0, 0, 100, 0), -2);
        c.due("off -1000", x.person(0, 0, 0, -1000), -2);
        c.due("off 1000", x.person(0, 0, 0, 1000), -2);
        c.due("nobody came", x.count(0), 0);
        c.due("first", x.person(0, 0, 0, -999), 0);
        c.due("second", x.person(6, 9, 99, 999), 1);
        c.due("count", x.count(0), 2);
        for (int p = 2; p < 6; p++) {
            c.due("one more", x.person(p - 1, p, 10 * p, -p), p);
        }
        c.due("a seventh", x.person(0, 0, 0, 0), -4);
        c.due("kind ahead of FULL", x.person(7, 0, 0, 0), -1);
        c.due("v ahead of FULL", x.person(0, 10, 0, 0), -2);
        c.due("due ahead of FULL", x.person(0, 0, 100, 0), -2);
        c.due("off ahead of FULL", x.person(0, 0, 0, 1000), -2);
        c.due("count", x.count(0), 6);
    }

    private static void ofPlain() {
        PealOfExcuses x = new PealOfExcuses();
        c.due("nobody", x.of(0, 0), -10001);
        x.person(4, 7, 58, -120);
        x.person(2, 3, 9, 14);
        int[][] want = {{4, 7, 58, -120, 0, 0, 178, 0}, {2, 3, 9, 14, 0, 0, -5, 0}};
        for (int p = 0; p < 2; p++) {
            for (int what = 0; what < 8; what++) {
                c.due("of(" + p + ", " + what + ")", x.of(p, what), want[p][what]);
            }
        }
        x.away(1, true);
        c.due("away", x.of(1, 4), 1);
        c.due("the other is not", x.of(0, 4), 0);
        c.due("what -1", x.of(0, -1), -10001);
        c.due("what 8", x.of(0, 8), -10001);
        c.due("person -1", x.of(-1, 0), -10001);
        c.due("person 2", x.of(2, 0), -10001);
        c.due("person MAX", x.of(Integer.MAX_VALUE, 5), -10001);
        c.due("what MIN", x.of(0, Integer.MIN_VALUE), -10001);
    }

    private static void ofMorning() {
        PealOfExcuses x = new PealOfExcuses();
        x.person(0, 0, 10, 0);
        x.person(0, 0, 12, 2);
        x.person(0, 0, 50, -1);
        x.person(0, 0, 10, 0);
        Checks.town(x, "lag 6 p=0;lag 7 p=1;haste 1 p=1;haste 1 p=2;lag 3 p=3;haste 3 p=3");
        int[][] want = {{6, 16, 12}, {6, 16, 12}, {-1, 50, 0}, {0, 10, 0}};
        for (int p = 0; p < 4; p++) {
            for (int k = 0; k < 3; k++) {
                c.due("of(" + p + ", " + (5 + k) + ")", x.of(p, 5 + k), want[p][k]);
            }
        }
        x.away(1, true);
        c.due("LAG of one who is AWAY", x.of(1, 5), 6);
        c.due("COMES of one who is AWAY", x.of(1, 6), 16);
        c.due("RINGS of one who is AWAY", x.of(1, 7), 0);
        c.due("RINGS of the other one", x.of(0, 7), 6);
        x.away(1, false);
        x.off(1, 3);
        c.due("RINGS at another minute", x.of(1, 7), 6);
        c.due("and alone", x.of(0, 7), 6);
        c.due("COMES earlier", x.of(1, 6), 15);
    }

    private static void off() {
        PealOfExcuses x = new PealOfExcuses();
        c.due("nobody", x.off(0, 5), -10001);
        x.person(0, 0, 0, -1);
        c.due("off", x.off(0, 999), -1);
        c.due("off", x.off(0, -999), 999);
        c.due("off 1000", x.off(0, 1000), -10002);
        c.due("off -1000", x.off(0, -1000), -10002);
        c.due("person ahead of off", x.off(1, 1000), -10001);
        c.due("person -1", x.off(-1, 0), -10001);
        c.due("it stays", x.of(0, 3), -999);
    }

    private static void due() {
        PealOfExcuses x = new PealOfExcuses();
        c.due("nobody", x.due(0, 5), -1);
        x.person(0, 0, 31, 0);
        c.due("due", x.due(0, 99), 31);
        c.due("due", x.due(0, 0), 99);
        c.due("due 100", x.due(0, 100), -2);
        c.due("due -1", x.due(0, -1), -2);
        c.due("person ahead of due", x.due(1, 100), -1);
        c.due("person -1", x.due(-1, 3), -1);
        c.due("it stays", x.of(0, 2), 0);
    }

    private static void away() {
        PealOfExcuses x = new PealOfExcuses();
        c.due("nobody", x.away(0, true), -1);
        x.person(0, 0, 0, 0);
        x.person(0, 0, 0, 0);
        c.due("away", x.away(1, true), 0);
        c.due("again", x.away(1, true), 1);
        c.due("bits", x.told(3), 2);
        c.due("not", x.away(1, false), 1);
        c.due("again", x.away(1, false), 0);
        c.due("person 2", x.away(2, true), -1);
        c.due("person -1", x.away(-1, true), -1);
        c.due("bits", x.told(3), 0);
    }

    private static void row() {
        PealOfExcuses x = new PealOfExcuses();
        c.due("nobody", x.row(0, 0, 0), -1);
        x.person(6, 0, 0, 0);
        x.person(3, 0, 0, 0);
        x.person(6, 0, 0, 0);
        for (int part = 0; part < 4; part++) {
            c.due("row 0 at first", x.row(0, part, 9 - part), 0);
            c.due("row 2 at first", x.row(2, part, part), 0);
        }
        for (int part = 0; part < 4; part++) {
            c.due("row 0", x.row(0, part, 0), 9 - part);
            c.due("row 2", x.row(2, part, 9), part);
        }
        c.due("another KIND", x.row(1, 0, 0), -3);
        c.due("number ahead of KIND", x.row(1, 0, 10), -2);
        c.due("part ahead of number", x.row(1, 4, 10), -1);
        c.due("part -1", x.row(0, -1, 0), -1);
        c.due("part 4", x.row(0, 4, 0), -1);
        c.due("person 3", x.row(3, 0, 10), -1);
        c.due("person -1", x.row(-1, 0, 0), -1);
        c.due("number -1", x.row(0, 0, -1), -2);
        c.due("number 10", x.row(0, 0, 10), -2);
    }

    private static void feed() {
        PealOfExcuses x = new PealOfExcuses();
        c.due("sign -1", x.feed(-1), -2);
        c.due("sign 128", x.feed(128), -2);
        c.due("sign 0", x.feed(0), 1);
        c.due("sign 127", x.feed(127), 2);
        for (int k = 3; k <= 100; k++) {
            c.due("sign " + k, x.feed('a'), k);
        }
        c.due("one too many", x.feed('a'), -4);
        c.due("sign ahead of FULL", x.feed(128), -2);
        c.due("count", x.count(5), 100);
        c.due("fault", x.town(), -10);
        c.due("empty then", x.count(5), 0);
        c.due("feed", x.feed('a'), 1);
    }

    private static void told() {
        PealOfExcuses x = new PealOfExcuses();
        x.person(0, 0, 0, 7);
        x.person(0, 0, 0, -9);
        x.person(0, 0, 0, 2);
        Checks.town(x, "loud 9;fast 3;loud 8;fast 2");
        x.away(0, true);
        x.away(2, true);
        int[] want = {0, 2, 8, 5, 9, 16};
        for (int what = 0; what < 6; what++) {
            c.due("told(" + what + ")", x.told(what), want[what]);
        }
        x.pass(4);
        int[] then = {4, 2, 8, 5, 15, 16};
        for (int what = 0; what < 6; what++) {
            c.due("told(" + what + ")", x.told(what), then[what]);
        }
        c.due("told(-1)", x.told(-1), -1);
        c.due("told(6)", x.told(6), -1);
        Checks.town(x, "lag 1 p=0");
        c.due("FAST without", x.told(1), 0);
        c.due("LOUD without", x.told(2), 5);
        Checks.town(x, "fast 0;loud 0");
        c.due("LOUD 0", x.told(2), 0);
    }
}
