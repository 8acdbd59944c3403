/** Promises 19 to 27: what is SEEN, ODDS, MEANS, the WEEK, the BOOK. */
public final class SeenTest {
    private static final Checks c = new Checks("SeenTest");
    private static final long NO = Long.MIN_VALUE;

    public static void main(String[] args) {
        see();
        was();
        can();
        odds();
        mean();
        week();
        gone();
        book();
        c.end();
    }

    private static PealOfExcuses pair(int v, int off) {
        PealOfExcuses x = new PealOfExcuses();
        x.person(0, 9, 0, 4);
        x.person(0, v, 0, off);
        Checks.town(x, "lag 5 p=0");
        return x;
    }

    private static void see() {
        PealOfExcuses x = new PealOfExcuses();
        c.due("nobody", x.see(0, 0, 0), -1);
        c.due("none", x.see(-1, 5000, -7), 0);
        x.person(0, 0, 0, 0);
        c.due("see", x.see(0, -999, 0), 1);
        c.due("see", x.see(0, 999, 20), 2);
        c.due("off -1000", x.see(0, -1000, 0), -2);
        c.due("off 1000", x.see(0, 1000, 0), -2);
        c.due("n -1", x.see(0, 0, -1), -2);
        c.due("n 21", x.see(0, 0, 21), -2);
        c.due("person ahead of off", x.see(1, 1000, 21), -1);
        c.due("person -2", x.see(-2, 0, 0), -1);
        for (int k = 3; k <= 5; k++) {
            c.due("see", x.see(0, 0, 0), k);
        }
        c.due("a sixth", x.see(0, 0, 0), -4);
        c.due("person ahead of FULL", x.see(1, 0, 0), -1);
        c.due("off ahead of FULL", x.see(0, 1000, 0), -2);
        c.due("n ahead of FULL", x.see(0, 0, 21), -2);
        c.due("count", x.count(2), 5);
        c.due("none", x.see(-1, 0, 0), 0);
        c.due("count", x.count(2), 0);
        c.due("see", x.see(0, 0, 0), 1);
    }

    private static void both(PealOfExcuses x, int person, int how, int least) {
        c.due("was(" + person + ", 0)", x.was(person, 0), how);
        c.due("was(" + person + ", 1)", x.was(person, 1), least);
    }

    private static void was() {
        PealOfExcuses x = pair(0, 0);
        both(x, 0, 41, -20);
        both(x, 1, 41, -20);
        x.see(1, 4, 1);
        both(x, 1, 41, -20);
        both(x, 0, 1, 4);
        x.see(1, 4, 0);
        both(x, 1, 1, 4);
        both(x, 0, 0, -10005);
        x.see(-1, 0, 0);
        x.see(0, 20, 20);
        both(x, 0, 1, 20);
        both(x, 1, 0, -10005);
        x.see(-1, 0, 0);
        x.see(0, -20, 7);
        both(x, 0, 1, -20);
        x.see(-1, 0, 0);
        x.see(0, 21, 7);
        both(x, 0, 0, -10005);
        x.see(-1, 0, 0);
        Checks.town(x, "fast 1");
        x.see(0, 5, 3);
        both(x, 0, 1, 2);
        both(x, 1, 0, -10005);
        x.pass(9);
        // SEEN is told from the DAY on which it is asked.
        both(x, 0, 1, 2);
        x.see(0, 9, 7);
        both(x, 0, 1, 2);
        x.see(0, 9, 6);
        both(x, 0, 0, -10005);
        c.due("OFF stays", x.of(0, 3), 13);
        PealOfExcuses far = new PealOfExcuses();
        far.person(0, 9, 0, 12);
        far.person(1, 0, 0, 0);
        Checks.town(far, "lag 5 p=0");
        far.see(1, 8, 1);
        // half way to 12 cut: 4 and 8 to go, or 5 and 7, of which the half is 3.
        both(far, 1, 2, 4);
        c.due("what 2", x.was(0, 2), -10001);
        c.due("what -1", x.was(0, -1), -10001);
        c.due("person 2", x.was(2, 0), -10001);
        c.due("person -1", x.was(-1, 1), -10001);
        c.due("nobody", new PealOfExcuses().was(0, 0), -10001);
    }

    private static void bothCan(PealOfExcuses x, int person, int how, int least) {
        c.due("can(" + person + ", 0)", x.can(person, 0), how);
        c.due("can(" + person + ", 1)", x.can(person, 1), least);
    }

    private static void can() {
        PealOfExcuses x = pair(7, 0);
        bothCan(x, 0, 10, 0);
        bothCan(x, 1, 10, 0);
        x.see(1, 0, 1);
        bothCan(x, 1, 4, 6);
        bothCan(x, 0, 10, 0);
        x.see(1, 4, 2);
        bothCan(x, 1, 0, -5);
        bothCan(x, 0, 0, -5);
        x.see(-1, 0, 0);
        x.see(1, 4, 20);
        bothCan(x, 1, 6, 0);
        x.see(1, 1, 0);
        bothCan(x, 1, 0, -5);
        c.due("v stays", x.of(1, 1), 7);
        PealOfExcuses y = pair(0, 0);
        Checks.town(y, "lag 5 p=0;lag 9 p=1&v=9;lag 4 p=1&v=8");
        y.see(0, 4, 1);
        y.see(1, 0, 1);
        // 5 minutes are less than v 6 .. 9, but v 9 rings 9, which 0 hears.
        bothCan(y, 1, 3, 6);
        y.off(0, 0);
        y.see(-1, 0, 0);
        y.see(1, 0, 3);
        bothCan(y, 1, 10, 0);
        c.due("what 2", x.can(0, 2), -1);
        c.due("what -1", x.can(0, -1), -1);
        c.due("person 2", x.can(2, 0), -1);
        c.due("person -1", x.can(-1, 1), -1);
        c.due("nobody", new PealOfExcuses().can(0, 0), -1);
    }

    private static void fraction(PealOfExcuses x, int n, long above, long below) {
        c.due("odds(" + n + ", 0)", x.odds(n, 0), above);
        c.due("odds(" + n + ", 1)", x.odds(n, 1), below);
    }

    private static void odds() {
        PealOfExcuses x = new PealOfExcuses();
        fraction(x, 0, NO, NO);
        x.person(0, 9, 0, 4);
        fraction(x, 60, 1, 1);
        x.person(0, 0, 0, 4);
        x.person(0, 0, 0, 0);
        Checks.town(x, "lag 5 p=0");
        fraction(x, 0, 0, 1);
        fraction(x, 1, 1, 3);
        fraction(x, 60, 1, 3);
        x.person(0, 0, 0, 4);
        fraction(x, 1, 1, 2);
        x.person(0, 0, 0, 4);
        x.person(0, 0, 0, 4);
        fraction(x, 1, 2, 3);
        x.off(2, 4);
        fraction(x, 0, 1, 1);
        fraction(x, 5, 1, 1);
        x.off(2, 0);
        x.away(0, true);
        fraction(x, 9, 0, 1);
        x.away(0, false);
        x.away(2, true);
        fraction(x, 9, 0, 1);
        c.due("AWAY stays", x.told(3), 4);
        c.due("n -1", x.odds(-1, 0), NO);
        c.due("n 61", x.odds(61, 0), NO);
        c.due("part -1", x.odds(0, -1), NO);
        c.due("part 2", x.odds(0, 2), NO);
        c.due("nothing went", x.told(0), 0);
    }

    private static void mean() {
        PealOfExcuses x = new PealOfExcuses();
        c.due("nobody", x.mean(0, 0), NO);
        c.due("nobody", x.mean(0, 1), NO);
        x.person(0, 9, 0, -7);
        c.due("alone", x.mean(0, 0), 7);
        c.due("alone", x.mean(60, 1), 1);
        x.person(0, 0, 0, 2);
        c.due("above", x.mean(0, 0), 9);
        c.due("below", x.mean(0, 1), 2);
        x.person(0, 0, 0, 1);
        x.person(0, 0, 0, 0);
        c.due("above", x.mean(0, 0), 5);
        c.due("below", x.mean(0, 1), 2);
        x.person(0, 0, 0, 2);
        x.away(4, true);
        x.person(0, 0, 0, 0);
        c.due("AWAY too", x.mean(0, 0), 2);
        c.due("AWAY too", x.mean(0, 1), 1);
        Checks.town(x, "fast 1;lag 9 d=1&p=0");
        // behind 1: -6, 3, 2, 1, 3, 1; behind 2: 0 rings: -5 x 4, 4 for the one AWAY
        c.due("behind 1", x.mean(1, 0), 8);
        c.due("behind 1", x.mean(1, 1), 3);
        c.due("behind 2", x.mean(2, 0), 29);
        c.due("behind 2", x.mean(2, 1), 6);
        for (int p = 0; p < 6; p++) {
            x.off(p, 0);
        }
        c.due("0", x.mean(0, 0), 0);
        c.due("0", x.mean(0, 1), 1);
        c.due("n -1", x.mean(-1, 0), NO);
        c.due("n 61", x.mean(61, 0), NO);
        c.due("part -1", x.mean(0, -1), NO);
        c.due("part 2", x.mean(0, 2), NO);
        c.due("60", x.mean(60, 0), 60);
    }

    private static void week() {
        PealOfExcuses x = new PealOfExcuses();
        c.due("a DAY", x.week(0, 77), 1);
        c.due("nobody", x.week(1, 0), -1);
        c.due("nobody", x.week(2, 0), -1);
        c.due("nobody", x.week(3, 0), -1);
        x.person(0, 0, 0, 0);
        c.due("AWAY", x.week(1, 0), 2);
        c.due("not", x.week(2, 0), 3);
        c.due("0", x.week(3, 0), 4);
        c.due("person 1", x.week(3, 1), -1);
        c.due("person -1", x.week(1, -1), -1);
        c.due("what 4", x.week(4, 0), -1);
        c.due("what -2", x.week(-2, 0), -1);
        for (int k = 5; k <= 10; k++) {
            c.due("a DAY", x.week(0, -1), k);
        }
        c.due("an eleventh", x.week(0, 0), -4);
        c.due("what ahead of FULL", x.week(4, 0), -1);
        c.due("person ahead of FULL", x.week(1, 1), -1);
        c.due("count", x.count(3), 10);
        c.due("empty", x.week(-1, 99), 0);
        c.due("count", x.count(3), 0);
        c.due("a DAY", x.week(0, 0), 1);
    }

    private static void wentTo(PealOfExcuses x, int wrong, int spread) {
        c.due("gone(0)", x.gone(0), wrong);
        c.due("gone(1)", x.gone(1), spread);
    }

    private static void gone() {
        PealOfExcuses x = pair(0, -3);
        Checks.town(x, "lag 5 p=0;fast 2");
        wentTo(x, 4, 7);
        x.week(1, 1);
        wentTo(x, 4, 7);
        x.week(0, 0);
        wentTo(x, 6, 7);
        x.week(2, 1);
        x.week(0, 0);
        wentTo(x, 8, 0);
        x.week(3, 0);
        wentTo(x, 8, 8);
        x.week(1, 0);
        x.week(0, 1);
        wentTo(x, 10, 8);
        x.week(3, 1);
        wentTo(x, 2, 2);
        x.week(2, 0);
        x.week(0, 0);
        wentTo(x, 4, 0);
        c.due("OFF stays", x.of(1, 3), -3);
        c.due("AWAY stays", x.told(3), 0);
        c.due("DAY stays", x.told(0), 0);
        x.away(1, true);
        c.due("rows stay", x.count(3), 10);
        x.week(-1, 0);
        wentTo(x, 4, 7);
        c.due("what 2", x.gone(2), -1);
        c.due("what -1", x.gone(-1), -1);
        c.due("nobody", new PealOfExcuses().gone(0), 0);
        PealOfExcuses late = new PealOfExcuses();
        late.person(0, 9, 0, 5);
        late.person(0, 0, 0, 0);
        Checks.town(late, "lag 9 d=1&p=0");
        late.week(0, 0);
        wentTo(late, 5, 5);
        late.week(0, 0);
        wentTo(late, 5, 0);
    }

    private static void book() {
        PealOfExcuses x = new PealOfExcuses();
        c.due("nobody", x.book(0, 0), -1);
        c.due("looked", x.looked(), -5);
        x.person(0, 0, 0, 3);
        x.person(0, 0, 0, -4);
        c.due("none", x.looked(), -5);
        c.due("book", x.book(1, -4), 1);
        c.due("book", x.book(0, 3), 2);
        c.due("none", x.looked(), -5);
        c.due("book", x.book(1, -999), 3);
        c.due("the third", x.looked(), 2);
        c.due("book", x.book(0, 999), 4);
        c.due("the third still", x.looked(), 2);
        x.off(1, -999);
        c.due("the first", x.looked(), 0);
        x.off(1, -4);
        x.off(0, 4);
        c.due("the second", x.looked(), 1);
        c.due("off 1000", x.book(0, 1000), -2);
        c.due("off -1000", x.book(0, -1000), -2);
        c.due("person ahead of off", x.book(2, 1000), -1);
        c.due("person -2", x.book(-2, 0), -1);
        for (int k = 5; k <= 8; k++) {
            c.due("book", x.book(0, 0), k);
        }
        c.due("a ninth", x.book(0, 0), -4);
        c.due("off ahead of FULL", x.book(0, 1000), -2);
        c.due("person ahead of FULL", x.book(2, 0), -1);
        c.due("count", x.count(4), 8);
        c.due("empty", x.book(-1, 5000), 0);
        c.due("count", x.count(4), 0);
        c.due("none", x.looked(), -5);
        for (int k = 1; k <= 7; k++) {
            x.book(1, -4);
        }
        x.book(1, -5);
        c.due("the last", x.looked(), 7);
    }
}
