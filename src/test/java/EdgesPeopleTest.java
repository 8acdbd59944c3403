/** Sentences that name an edge: promises 1 to 8 and 10, and PEOPLE in the Terms. */
public final class EdgesPeopleTest {
    private static final Checks c = new Checks("EdgesPeopleTest");
    private static final Story s = new Story(c);

    public static void main(String[] args) {
        newObject();
        person();
        of();
        lag();
        rings();
        off();
        due();
        away();
        row();
        feed();
        told();
        c.end();
    }

    private static void newObject() {
        s.tell("1: nobody", "count 0 = 0", "of 0 0 = -10001", "off 0 0 = -10001", "due 0 0 = NONE",
            "away 0 true = NONE", "row 0 0 0 = NONE", "taken 0 0 = NOTHING", "book 0 0 = NONE", "see 0 0 0 = NONE",
            "image = 0");
        s.tell("1: no TOWN", "count 1 = 0", "told 1 = 0", "told 2 = 5", "person 0 0 7 2 = 0", "of 0 5 = 0",
            "of 0 6 = 5", "of 0 7 = 0");
        s.tell("DAY: 0 at first", "told 0 = 0");
        s.tell("AWAY: not at first", "person 0 0 0 0 = 0", "of 0 4 = 0", "told 3 = 0");
        s.tell("its ROW: 0 at first", "person 6 0 0 0 = 0", "row 0 0 1 = 0", "row 0 1 1 = 0", "row 0 2 1 = 0",
            "row 0 3 1 = 0");
        s.tell("1: nothing is told", "count 2 = 0", "count 3 = 0", "count 4 = 0", "count 5 = 0", "count 6 = 0",
            "trace 0 = NONE", "looked = -5", "undo = STATE", "town = -10");
        s.tell("an object is used for 512 calls", "505x person 7 0 0 0 = NONE", "person 0 0 0 4 = 0", "off 0 5 = 4",
            "off 0 6 = 5", "pass 1 = 6", "image = 1", "of 0 3 = 6", "told 0 = 1");
        for (int tape = 0; tape <= 5; tape++) {
            s.tell("TAPES hold nothing at first", "item " + tape + " 0 0 = NOTHING", "read " + tape + " 0 = NO");
        }
    }

    private static void person() {
        s.tell("2: 6 PEOPLE, 0 .. 5, as they come", "person 0 1 2 3 = 0", "person 1 2 3 4 = 1", "person 2 3 4 5 = 2",
            "person 3 4 5 6 = 3", "person 4 5 6 7 = 4", "person 5 6 7 8 = 5", "! person 6 7 8 9 = FULL", "count 0 = 6",
            "of 5 0 = 5", "of 5 1 = 6", "of 5 2 = 7", "of 5 3 = 8", "of 6 0 = -10001");
        s.tell("2: kind 0 .. 6", "! person -1 0 0 0 = NONE", "! person 7 0 0 0 = NONE", "! person 8 0 0 0 = NONE",
            "! person MIN 0 0 0 = NONE", "! person MAX 0 0 0 = NONE", "person 0 0 0 0 = 0", "person 6 0 0 0 = 1",
            "of 0 0 = 0", "of 1 0 = 6");
        s.tell("2: v 0 .. 9", "! person 0 -1 0 0 = BAD", "! person 0 10 0 0 = BAD", "! person 0 MIN 0 0 = BAD",
            "! person 0 MAX 0 0 = BAD", "person 0 0 1 1 = 0", "person 0 9 1 1 = 1", "of 0 1 = 0", "of 1 1 = 9");
        s.tell("2: DUE 0 .. 99", "! person 0 0 -1 0 = BAD", "! person 0 0 100 0 = BAD", "! person 0 0 MIN 0 = BAD",
            "! person 0 0 MAX 0 = BAD", "person 0 1 0 1 = 0", "person 0 1 99 1 = 1", "of 0 2 = 0", "of 1 2 = 99");
        s.tell("2: OFF -999 .. 999", "! person 0 0 0 -1000 = BAD", "! person 0 0 0 1000 = BAD",
            "! person 0 0 0 MIN = BAD", "! person 0 0 0 MAX = BAD", "person 0 1 1 -999 = 0", "person 0 1 1 999 = 1",
            "of 0 3 = -999", "of 1 3 = 999");
        s.tell("2: kind ahead of v, due, off", "! person 7 10 0 0 = NONE", "! person -1 0 100 0 = NONE",
            "! person 7 0 0 1000 = NONE", "count 0 = 0");
        s.tell("2: kind, v, due, off ahead of FULL", "6x person 0 0 0 0", "! person 7 0 0 0 = NONE",
            "! person -1 10 -1 -1000 = NONE", "! person 0 10 0 0 = BAD", "! person 0 0 100 0 = BAD",
            "! person 0 0 0 1000 = BAD", "! person 0 -1 -1 -1000 = BAD", "! person 0 0 0 0 = FULL");
        s.tell("2: who is refused takes no number", "person 7 0 0 0 = NONE", "person 0 10 0 0 = BAD",
            "person 0 0 0 0 = 0", "person 0 0 100 0 = BAD", "person 0 0 0 0 = 1");
        s.tell("AWAY: not at first, who comes behind undo too", "image = 0", "person 6 0 0 0 = 0", "away 0 true = 0",
            "row 0 3 9 = 0", "undo = 0", "person 6 0 0 0 = 0", "of 0 4 = 0", "row 0 3 0 = 0");
    }

    private static void of() {
        String[] none = {"! of 0 -1 = -10001", "! of 0 8 = -10001", "! of 0 MIN = -10001", "! of 0 MAX = -10001",
            "! of -1 0 = -10001", "! of 1 0 = -10001", "! of 5 7 = -10001", "! of 6 0 = -10001", "! of MIN 0 = -10001",
            "! of MAX 7 = -10001", "! of -1 8 = -10001"};
        s.tellBehind("3: NONE is -10001 here", new String[] {"person 4 7 58 -120 = 0"}, none);
        s.tell("3: NONE, nobody is there", "! of 0 0 = -10001", "! of 0 7 = -10001", "! of 0 8 = -10001");
        s.tell("3: what 0 .. 7", "person 4 7 58 -120 = 0", "! of 0 0 = 4", "! of 0 1 = 7", "! of 0 2 = 58",
            "! of 0 3 = -120", "! of 0 4 = 0", "! of 0 5 = 0", "! of 0 6 = 178", "! of 0 7 = 0", "away 0 true = 0",
            "! of 0 4 = 1");
        s.tell("3: the sixth is the last", "6x person 0 0 0 0", "off 5 7 = 0", "of 5 3 = 7", "of 6 3 = -10001");
        s.tell("3: -1 and -2 may be an OFF", "person 0 0 0 -1 = 0", "person 0 0 0 -2 = 1", "of 0 3 = -1", "of 1 3 = -2",
            "off 0 -2 = -1", "off 0 0 = -2", "on 0 11 = -2");
    }

    private static void lag() {
        s.tell("LAG may be below 0", "person 0 0 0 0 = 0", "text haste 1 p=0", "town = 0", "of 0 5 = -1", "of 0 6 = -1",
            "of 0 7 = 0", "text haste 2 p=0", "town = 1", "of 0 5 = -2", "text lag 1 p=0;haste 99 k=0;haste 99 k=0",
            "town = 2", "of 0 5 = -197", "of 0 6 = -197");
        s.tell("LAG: all lag whose E holds, less those of all haste", "person 0 0 0 0 = 0", "person 0 0 0 0 = 1",
            "text lag 9 p=0;haste 4 p=0;lag 7 p=1;haste 2 p=1;lag 99 p=2", "town = 0", "of 0 5 = 5", "of 1 5 = 5");
        s.tell("without a TOWN there are no CLAUSES", "person 0 0 7 0 = 0", "of 0 5 = 0", "of 0 7 = 0", "pass 1 = 0",
            "of 0 3 = 0");
        s.tell("COMES may be below 0", "person 0 0 0 999 = 0", "of 0 6 = -999", "text haste 99 p=0", "town = 0",
            "of 0 6 = -1098");
        s.tell("COMES may be far behind", "person 0 0 99 -999 = 0", "text lag 99 p=0", "town = 0", "of 0 6 = 1197");
    }

    private static void rings() {
        String[] two = {"person 5 0 10 0 = 0", "person 5 0 20 10 = 1"};
        s.tellBehind("RINGS: 0, if LAG is 0 or less", two, "of 0 7 = 0", "text lag 1 p=0", "town = 0", "of 0 7 = 1",
            "text lag 1 p=0;haste 1 p=0", "town = 1", "of 0 5 = 0", "of 0 7 = 0", "text lag 1 p=0;haste 2 p=0",
            "town = 2", "of 0 5 = -1", "of 0 7 = 0");
        s.tellBehind("RINGS: together, who COME at just that minute", two, "text lag 4 p<2", "town = 0", "of 0 6 = 14",
            "of 1 6 = 14", "of 0 7 = 8", "of 1 7 = 8", "off 1 9 = 10", "of 0 7 = 4", "of 1 7 = 4", "off 1 11 = 9",
            "of 0 7 = 4", "of 1 7 = 4");
        s.tellBehind("RINGS: 0, if one is AWAY, and of all who are not", two, "text lag 4 p<2", "town = 0",
            "away 0 true = 0", "of 0 5 = 4", "of 0 7 = 0", "of 1 7 = 4", "away 1 true = 0", "of 1 7 = 0",
            "away 0 false = 1", "of 0 7 = 4", "of 1 7 = 0");
        s.tellBehind("RINGS: of all whose LAG is above 0", two, "text lag 4 p=0;haste 4 p=1", "town = 0",
            "off 1 2 = 10", "of 0 6 = 14", "of 1 6 = 14", "of 0 7 = 4", "of 1 7 = 0", "text lag 4 p=0", "town = 1",
            "off 1 6 = 2", "of 1 6 = 14", "of 0 7 = 4", "of 1 7 = 0");
        s.tell("RINGS: all six together", "6x person 5 0 0 0", "text lag 99 p<9", "town = 0", "of 0 7 = 594",
            "of 5 7 = 594", "due 5 1 = 0", "of 0 7 = 495", "of 5 7 = 99");
        s.tell("RINGS: one alone, its LAG", "person 5 0 0 0 = 0", "text lag 7 p=0;lag 9 p=0", "town = 0",
            "of 0 7 = 16");
    }

    private static void off() {
        s.tell("4: OFF -999 .. 999", "person 0 0 0 5 = 0", "! off 0 -1000 = -10002", "! off 0 1000 = -10002",
            "! off 0 MIN = -10002", "! off 0 MAX = -10002", "off 0 -999 = 5", "of 0 3 = -999", "off 0 999 = -999",
            "of 0 3 = 999", "off 0 0 = 999");
        s.tell("4: NONE is -10001 here", "! off 0 0 = -10001", "person 0 0 0 5 = 0", "! off 1 0 = -10001",
            "! off -1 0 = -10001", "! off MIN 0 = -10001", "! off MAX 0 = -10001");
        s.tell("4: NONE ahead of BAD", "person 0 0 0 5 = 0", "! off 1 1000 = -10001", "! off -1 -1000 = -10001");
        s.tell("4: what it was", "person 0 0 0 -1 = 0", "off 0 -2 = -1", "off 0 -3 = -2", "off 0 -4 = -3",
            "off 0 -4 = -4", "of 0 3 = -4");
        s.tell("4: the sixth is the last", "6x person 0 0 0 0", "off 5 3 = 0", "! off 6 3 = -10001", "of 5 3 = 3",
            "of 4 3 = 0");
    }

    private static void due() {
        s.tell("5: DUE 0 .. 99", "person 0 0 50 5 = 0", "! due 0 -1 = BAD", "! due 0 100 = BAD", "! due 0 MIN = BAD",
            "! due 0 MAX = BAD", "due 0 99 = 50", "of 0 2 = 99", "due 0 0 = 99", "of 0 2 = 0");
        s.tell("5: NONE", "! due 0 0 = NONE", "person 0 0 50 5 = 0", "! due 1 0 = NONE", "! due -1 0 = NONE",
            "! due MIN 0 = NONE", "! due MAX 0 = NONE");
        s.tell("5: NONE ahead of BAD", "person 0 0 50 5 = 0", "! due 1 100 = NONE", "! due -1 -1 = NONE");
        s.tell("5: the sixth is the last", "6x person 0 0 8 0", "due 5 3 = 8", "! due 6 3 = NONE", "of 5 2 = 3",
            "of 4 2 = 8");
    }

    private static void away() {
        s.tell("6: NONE", "! away 0 true = NONE", "person 0 0 0 0 = 0", "! away 1 true = NONE", "! away -1 true = NONE",
            "! away MIN true = NONE", "! away MAX true = NONE", "! away 1 false = NONE");
        s.tell("6: whether it was", "person 0 0 0 0 = 0", "person 0 0 0 0 = 1", "! away 1 false = 0", "away 1 true = 0",
            "! away 1 true = 1", "of 0 4 = 0", "of 1 4 = 1", "away 1 false = 1", "of 1 4 = 0");
        s.tell("6: the sixth is the last", "6x person 0 0 0 0", "away 5 true = 0", "! away 6 true = NONE",
            "told 3 = 32");
    }

    private static void row() {
        s.tell("7: n 0 .. 9", "person 6 0 0 0 = 0", "row 0 1 5 = 0", "! row 0 1 -1 = BAD", "! row 0 1 10 = BAD",
            "! row 0 1 MIN = BAD", "! row 0 1 MAX = BAD", "row 0 1 9 = 5", "row 0 1 0 = 9", "row 0 1 0 = 0");
        s.tell("7: part 0 .. 3", "person 6 0 0 0 = 0", "! row 0 -1 1 = NONE", "! row 0 4 1 = NONE",
            "! row 0 MIN 1 = NONE", "! row 0 MAX 1 = NONE", "row 0 0 1 = 0", "row 0 3 2 = 0", "row 0 0 3 = 1",
            "row 0 3 3 = 2", "row 0 1 0 = 0", "row 0 2 0 = 0");
        s.tell("7: NONE, person", "! row 0 0 1 = NONE", "person 6 0 0 0 = 0", "! row 1 0 1 = NONE",
            "! row -1 0 1 = NONE", "! row MIN 0 1 = NONE", "! row MAX 0 1 = NONE");
        for (int kind = 0; kind <= 5; kind++) {
            s.tell("7: STATE, another KIND: " + kind, "person " + kind + " 0 0 0 = 0", "! row 0 0 0 = STATE",
                "! row 0 3 9 = STATE", "! row 0 4 0 = NONE", "! row 0 0 10 = BAD");
        }
        s.tell("7: NONE ahead of BAD ahead of STATE", "person 3 0 0 0 = 0", "person 6 0 0 0 = 1", "! row 0 0 10 = BAD",
            "! row 0 -1 10 = NONE", "! row 2 0 10 = NONE", "! row 1 4 10 = NONE", "! row 2 4 10 = NONE");
        s.tell("7: each has a ROW of its own", "6x person 6 0 0 0", "row 5 3 9 = 0", "row 0 0 8 = 0",
            "! row 6 0 0 = NONE", "row 4 3 1 = 0", "row 1 0 1 = 0", "row 5 3 0 = 9", "row 0 0 0 = 8");
    }

    private static void feed() {
        s.tell("8: a sign 0 .. 127", "! feed -1 = BAD", "! feed 128 = BAD", "! feed 255 = BAD", "! feed MIN = BAD",
            "! feed MAX = BAD", "feed 0 = 1", "feed 127 = 2", "count 5 = 2");
        s.tell("8: a refused sign is not in THE TEXT", "text fast ", "feed 128 = BAD", "feed -1 = BAD", "feed 55 = 6",
            "town = 0", "told 1 = 7");
        s.tell("8: FULL, 100", "99x feed 102", "count 5 = 99", "! feed 128 = BAD", "feed 102 = 100",
            "! feed 102 = FULL", "! feed 128 = BAD", "! feed -1 = BAD", "count 5 = 100", "town = -11", "count 5 = 0",
            "feed 102 = 1");
        StringBuilder hundred = new StringBuilder("text lag 09 k=0");
        for (int k = 0; k < 18; k++) {
            hundred.append("|k=0").append(k % 10);
        }
        s.tell("8: what is FULL stays as it is", hundred.toString(), "count 5 = 100", "feed 48 = FULL",
            "feed 59 = FULL", "town = 0", "person 0 0 0 0 = 0", "of 0 5 = 9");
    }

    private static void told() {
        s.tell("10: what 0 .. 5", "person 0 0 0 -7 = 0", "text fast 3;loud 9", "town = 0", "away 0 true = 0",
            "pass 1 = 4", "! told 0 = 1", "! told 1 = 3", "! told 2 = 9", "! told 3 = 1", "! told 4 = 4",
            "! told 5 = 0", "! told -1 = NONE", "! told 6 = NONE", "! told MIN = NONE", "! told MAX = NONE");
        s.tell("WRONG, SPREAD: 0, nobody is there", "told 4 = 0", "told 5 = 0", "on 60 0 = 0", "on 60 1 = 0",
            "gone 0 = 0", "gone 1 = 0", "pass 60 = 0");
        s.tell("WRONG: the greatest by which any is ahead or behind", "person 0 0 0 -999 = 0", "person 0 0 0 998 = 1",
            "told 4 = 999", "told 5 = 1997", "off 0 -997 = -999", "told 4 = 998", "off 1 999 = 998", "told 5 = 1996",
            "off 0 -999 = -997", "told 5 = 1998");
        s.tell("SPREAD of one alone", "person 0 0 0 -999 = 0", "told 4 = 999", "told 5 = 0");
        s.tell("SPREAD: all behind, all ahead", "person 0 0 0 -9 = 0", "person 0 0 0 -4 = 1", "told 4 = 9",
            "told 5 = 5", "off 0 9 = -9", "off 1 4 = -4", "told 4 = 9", "told 5 = 5");
        s.tell("10: those AWAY as bits, all six", "6x person 0 0 0 0", "away 0 true", "away 5 true", "told 3 = 33",
            "away 1 true", "away 2 true", "away 3 true", "away 4 true", "told 3 = 63");
        s.tell("the last one's n of FAST, of LOUD", "text fast 9;loud 8;fast 0;loud 0", "town = 0", "told 1 = 0",
            "told 2 = 0", "text fast 99;loud 99", "town = 1", "told 1 = 99", "told 2 = 99", "text lag 1 p=0",
            "town = 2", "told 1 = 0", "told 2 = 5");
    }
}
