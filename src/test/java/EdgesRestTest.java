/** Sentences that name an edge: promises 28 to 38. */
public final class EdgesRestTest {
    private static final Checks c = new Checks("EdgesRestTest");
    private static final Story s = new Story(c);

    public static void main(String[] args) {
        judge();
        image();
        inTheImage();
        notInTheImage();
        acts();
        trace();
        taken();
        count();
        tape();
        item();
        read();
        shift();
        shiftOfTheSame();
        c.end();
    }

    private static void judge() {
        String[] three = {"person 0 0 0 3 = 0", "person 0 0 0 -4 = 1", "person 0 0 0 999 = 2"};
        s.tellBehind("28: NONE", three, "! judge -1 0 = NONE", "! judge 6 0 = NONE", "! judge MIN -1 = NONE",
            "! judge MAX 99 = NONE", "! judge 0 0 = 100", "! judge 5 0 = 100");
        int[] others = {0, 2, 3, 4};
        for (int sort : others) {
            s.tellBehind("28: CAST, no row of shorts: " + sort, three, "tape 0 " + sort + " 5 = 1",
                "! judge 0 0 = CAST", "! judge 0 -1 = CAST", "! judge 0 5 = CAST", "tape 0 " + sort + " 0 = 1",
                "! judge 0 0 = CAST", "tape 0 1 5 = 1", "! judge 0 0 = 0", "tape 0 -1 0 = 1", "! judge 0 0 = 100");
            s.tell("28: CAST, though nobody is there: " + sort, "tape 0 " + sort + " 5 = 1", "! judge 0 0 = CAST",
                "! judge 0 -1 = CAST");
        }
        s.tell("JUDGED: -5, there is none to look at", "! judge 0 0 = -5", "! judge 0 -1 = -5", "tape 1 1 4 = 1",
            "! judge 1 0 = -5", "! judge 1 4 = -5", "! judge 1 5 = -5", "! judge 1 MIN = -5", "! judge 1 MAX = -5",
            "tape 2 1 0 = 1", "! judge 2 0 = -5");
        s.tellBehind("JUDGED: 100, the TAPE holds nothing", three, "! judge 0 0 = 100", "! judge 0 -1 = 100",
            "! judge 0 9 = 100", "! judge 0 MIN = 100", "tape 0 1 0 = 1", "! judge 0 0 = 100", "! judge 0 1 = 100");
        String[] told = {"tape 0 1 6 = 1", "item 0 2 3", "item 0 3 -4", "item 0 4 999"};
        s.tellBehind("JUDGED: -5, none", three, told[0], told[1], told[2], told[3], "! judge 0 2 = -5",
            "tape 1 1 3 = 1", "shift 0 2 1 0 3 = 3", "! judge 1 0 = -5");
        s.tellBehind("JUDGED: the first that is otherwise", three, told[0], told[1], told[2], told[3], "item 0 4 998",
            "! judge 0 2 = 2", "item 0 3 4", "! judge 0 2 = 1", "item 0 2 -3", "! judge 0 2 = 0", "! judge 0 0 = 0",
            "! judge 0 3 = 0");
        s.tellBehind("JUDGED: 100 and how many, the row ends ahead of that", three, "tape 0 1 2 = 1", "item 0 0 3",
            "item 0 1 -4", "! judge 0 0 = 102", "item 0 1 3", "! judge 0 1 = 101", "! judge 0 2 = 100",
            "! judge 0 3 = 100", "! judge 0 60 = 100", "! judge 0 MAX = 100", "! judge 0 0 = 1");
        s.tellBehind("JUDGED: 100, the place is below 0", three, "tape 0 1 4 = 1", "item 0 0 3", "item 0 1 -4",
            "item 0 2 999", "! judge 0 -1 = 100", "! judge 0 -3 = 100", "! judge 0 MIN = 100", "! judge 0 0 = -5");
        s.tell("JUDGED: all six", "6x person 0 0 0 7", "tape 0 1 6", "item 0 0 7", "item 0 1 7", "item 0 2 7",
            "item 0 3 7", "item 0 4 7", "! judge 0 0 = 5", "item 0 5 7", "! judge 0 0 = -5", "! judge 0 1 = 105",
            "tape 1 1 60", "shift 0 0 1 54 6 = 6", "! judge 1 54 = -5", "! judge 1 55 = 105", "! judge 1 59 = 101",
            "! judge 1 60 = 100");
    }

    private static void image() {
        s.tell("30: STATE, there is none", "! undo = STATE", "person 0 0 0 0 = 0", "! undo = STATE", "count 0 = 1",
            "image = 1", "undo = 1");
        s.tell("29: how many PEOPLE", "image = 0", "person 0 0 0 0 = 0", "image = 1", "5x person 0 0 0 0", "image = 6",
            "undo = 6");
        s.tell("30: of nobody", "image = 0", "6x person 0 0 0 0", "person 0 0 0 0 = FULL", "pass 9", "undo = 0",
            "count 0 = 0", "told 0 = 0", "of 0 0 = -10001", "6x person 0 0 0 0", "count 0 = 6");
        s.tell("30: as often as one likes", "person 0 0 0 1 = 0", "image = 1", "off 0 2", "undo = 1", "of 0 3 = 1",
            "off 0 3", "image = 1", "! image = 1", "! undo = 1", "off 0 4", "undo = 1", "of 0 3 = 3");
        s.tell("29: the later one", "person 0 0 0 1 = 0", "image = 1", "off 0 2", "image = 1", "off 0 3", "undo = 1",
            "of 0 3 = 2", "undo = 1", "of 0 3 = 2");
        s.tell("IMAGE: what changes behind undo is not in it", "person 6 0 0 1 = 0", "row 0 1 4", "image = 1",
            "undo = 1", "off 0 2", "row 0 1 5", "see 0 0 0", "week 0 0", "book 0 0", "pass 1", "undo = 1", "of 0 3 = 1",
            "row 0 1 9 = 4", "count 2 = 0", "count 3 = 0", "count 4 = 0", "told 0 = 0");
    }

    private static void inTheImage() {
        String[] past = {"person 6 3 21 8 = 0", "person 0 1 2 3 = 1", "row 0 0 1", "row 0 1 2", "row 0 2 3",
            "row 0 3 4", "away 1 true", "text fast 1", "town = 0", "pass 5", "image = 2"};
        s.tellBehind("IMAGE: PEOPLE with all that is theirs", past, "off 0 99", "due 0 99", "row 0 0 9", "row 0 3 9",
            "away 0 true", "away 1 false", "person 0 9 9 9 = 2", "undo = 2", "of 0 0 = 6", "of 0 1 = 3", "of 0 2 = 21",
            "of 0 3 = 13", "of 0 4 = 0", "of 1 4 = 1", "of 1 3 = 8", "row 0 0 0 = 1", "row 0 1 0 = 2", "row 0 2 0 = 3",
            "row 0 3 0 = 4", "of 2 0 = -10001", "person 6 0 0 0 = 2", "of 2 0 = 6", "of 2 4 = 0");
        s.tell("IMAGE: all six", "6x person 6 0 0 0", "row 5 0 6", "row 5 3 7", "row 4 1 8", "row 0 2 9", "off 5 5",
            "due 5 5", "away 5 true", "image = 6", "row 5 0 1", "row 5 3 2", "row 4 1 3", "row 0 2 4", "off 5 6",
            "due 5 6", "away 5 false", "undo = 6", "row 5 0 0 = 6", "row 5 3 0 = 7", "row 4 1 0 = 8", "row 0 2 0 = 9",
            "of 5 2 = 5", "of 5 3 = 5", "told 3 = 32");
        s.tell("IMAGE: of the sixth, v and KIND", "5x person 0 0 0 0", "image = 5", "person 6 9 0 0 = 5", "undo = 5",
            "person 2 4 0 0 = 5", "of 5 0 = 2", "of 5 1 = 4", "image = 6", "undo = 6", "of 5 0 = 2", "of 5 1 = 4");
        s.tellBehind("IMAGE: DAY", past, "pass 60", "told 0 = 65", "undo = 2", "told 0 = 5", "of 0 3 = 13");
        s.tellBehind("IMAGE: SEEN", past, "see 0 13 0 = 1", "see 0 23 10 = 2", "image = 2", "see -1 0 0",
            "see 0 5 0 = 1", "undo = 2", "count 2 = 2", "was 0 0 = 1", "was 0 1 = 13", "see 0 24 10 = 3", "was 0 0 = 0",
            "undo = 2", "was 0 0 = 1");
        s.tellBehind("IMAGE: SEEN, of whom and behind how many DAYS", past, "see 1 8 0 = 1", "see 0 33 20 = 2",
            "image = 2", "see -1 0 0", "see 0 8 7", "see 1 33 9", "undo = 2", "was 0 0 = 1", "was 0 1 = 13",
            "was 1 0 = 1", "was 1 1 = 8", "can 0 0 = 10");
        s.tellBehind("IMAGE: SEEN, five", past, "5x see 0 13 0", "image = 2", "see -1 0 0", "undo = 2", "count 2 = 5",
            "see 0 0 0 = FULL");
        s.tellBehind("IMAGE: the WEEK", past, "week 0 0 = 1", "week 3 1 = 2", "image = 2", "week -1 0", "week 3 0",
            "undo = 2", "count 3 = 2", "gone 0 = 14", "gone 1 = 14");
        s.tellBehind("IMAGE: the WEEK, ten", past, "10x week 0 0", "image = 2", "week -1 0", "undo = 2", "count 3 = 10",
            "week 0 0 = FULL", "gone 0 = 23");
        s.tellBehind("IMAGE: the BOOK", past, "book 0 13 = 1", "book 1 8 = 2", "image = 2", "book -1 0", "book 0 5",
            "looked = 0", "undo = 2", "count 4 = 2", "looked = -5", "off 1 9", "looked = 1");
        s.tellBehind("IMAGE: the BOOK, of whom", past, "book 1 8 = 1", "book 0 13 = 2", "image = 2", "book -1 0",
            "book 0 8", "book 1 13", "looked = 0", "undo = 2", "looked = -5");
        s.tellBehind("IMAGE: the WEEK, of whom", past, "week 3 1 = 1", "image = 2", "week -1 0", "week 3 0",
            "gone 0 = 8", "undo = 2", "gone 0 = 13");
        s.tellBehind("IMAGE: the BOOK, eight", past, "8x book 0 13", "image = 2", "book -1 0", "undo = 2",
            "count 4 = 8", "book 0 13 = FULL", "looked = -5");
        s.tell("IMAGE: which TOWN holds", "image = 0", "text fast 3;loud 7", "town = 0", "undo = 0", "told 1 = 0",
            "told 2 = 5", "count 1 = 1", "text fast 4", "town = 1", "image = 0", "text fast 5", "town = 2",
            "text fast 6;x", "town = -17", "told 1 = 5", "undo = 0", "told 1 = 4", "count 1 = 3", "text fast 7",
            "town = 3", "told 1 = 7", "undo = 0", "told 1 = 4");
        s.tell("IMAGE: none held", "person 0 0 0 0 = 0", "image = 1", "text lag 5 p=0", "town = 0", "of 0 7 = 5",
            "undo = 1", "of 0 5 = 0", "of 0 7 = 0", "who 5 0 = 0");
    }

    private static void notInTheImage() {
        s.tell("IMAGE: THE TEXT is not in it", "text fast 1", "image = 0", "text 2", "undo = 0", "count 5 = 7",
            "town = 0", "told 1 = 12");
        s.tell("IMAGE: TAPES are not in it", "tape 0 1 2", "item 0 0 5", "image = 0", "item 0 0 6", "tape 1 0 3",
            "undo = 0", "read 0 0 = 6", "read 1 2 = 0");
        s.tell("IMAGE: THE TRACE is not in it", "person 0 0 0 0 = 0", "act 0 0 1 = 1", "image = 1", "act 0 2 1 = 2",
            "undo = 1", "count 6 = 3", "trace 0 = 12", "trace 2 = 10");
        s.tell("IMAGE: how many TOWNS is not in it", "image = 0", "text fast 1", "town = 0", "text fast 1", "town = 1",
            "text fast 1", "town = 2", "text fast 1", "town = 3", "text fast 1", "town = 4", "text fast 1", "town = 5",
            "undo = 0", "count 1 = 6", "text fast 1", "! town = FULL");
    }

    private static void acts() {
        String[] one = {"person 3 4 0 0 = 0"};
        String[] none = {"1 0", "-1 0", "6 0", "MIN 1", "MAX 2", "0 3", "0 -1", "0 MIN", "0 MAX", "1 3"};
        for (String who : none) {
            String call = "act " + who + " 5 = 0";
            s.tellBehind("31: 0, no such PERSON, act", one, "! " + call, "act 0 2 1 = -9", "count 6 = 6",
                "trace 0 = 40", call, "count 6 = 0", "trace 0 = NONE", "trace 5 = NONE");
        }
        s.tell("31: 0, nobody is there", "! act 0 0 5 = 0", "! act 0 2 5 = 0", "count 6 = 0", "trace 0 = NONE");
        s.tell("31: what is his is as it was", "person 6 4 3 2 = 0", "row 0 1 7 = 0", "act 0 2 9", "! act 0 2 9",
            "row 0 1 7 = 7");
        s.tell("ACTS: wrapping", "person 0 9 0 0 = 0", "person 2 1 0 0 = 1", "person 4 0 0 0 = 2",
            "act 1 0 MAX = 2147483646", "act 0 0 MAX = 2147483647", "act 0 1 MIN = 2147483639", "act 0 2 MIN = -18",
            "act 2 0 -2 = 0", "act 2 0 MIN = 2147483646", "act 2 0 2147483646 = -2147483648",
            "act 2 1 MAX = 2147483640", "act 1 0 715827883 = -2147483646");
        s.tell("ACTS: i its number", "6x person 0 9 0 0", "act 0 0 0 = 0", "act 5 0 0 = 5",
            "act 5 0 MAX = -2147483644");
        int[][] bodies = {{10}, {11, 10}, {12, 11, 10}, {10}, {20, 11, 10}, {12, 20, 11, 10}, {30, 10}, {11, 30, 10},
            {12, 11, 30, 10}, {10}, {11, 10}, {40, 12, 11, 10, 11, 10}, {50, 10}, {51, 20, 11, 50, 10},
            {12, 51, 20, 11, 50, 10}, {30, 10}, {11, 30, 10}, {60, 12, 11, 30, 10}, {71, 10},
            {70, 11, 71, 10, 10}, {40, 12, 70, 11, 71, 10, 10, 70, 11, 71, 10, 10}};
        // x 7, v 3, i 0; then x 7, v 3, i 2
        int[] answers = {7, 4, 8, 7, 2, 4, 21, 18, 36, 7, 4, 6, -7, -13, -26, 21, 18, 36, 4, 3, 7};
        int[] ofThird = {9, 6, 12, 9, 0, 0, 23, 20, 40, 9, 6, 12, -9, -11, -22, 23, 20, 28, 10, 11, 23};
        for (int k = 0; k < bodies.length; k++) {
            String[] lines = new String[bodies[k].length + 5];
            lines[0] = "3x person " + k / 3 + " 3 0 0";
            lines[1] = "act 0 " + k % 3 + " 7 = " + answers[k];
            lines[2] = "act 2 " + k % 3 + " 7 = " + ofThird[k];
            lines[3] = "count 6 = " + bodies[k].length;
            lines[4] = "trace " + bodies[k].length + " = NONE";
            for (int i = 0; i < bodies[k].length; i++) {
                lines[5 + i] = "trace " + i + " = " + bodies[k][i];
            }
            s.tell("BODIES of KIND " + k / 3 + ", ACT " + k % 3, lines);
        }
    }

    private static void trace() {
        s.tell("32: NONE", "! trace 0 = NONE", "person 6 0 0 0 = 0", "act 0 2 0", "count 6 = 12", "! trace -1 = NONE",
            "! trace MIN = NONE", "! trace 0 = 40", "! trace 11 = 10", "! trace 12 = NONE", "! trace 13 = NONE",
            "! trace 19 = NONE", "! trace 20 = NONE", "! trace MAX = NONE", "act 0 0 0", "! trace 0 = 71",
            "! trace 1 = 10", "! trace 2 = NONE", "! trace 11 = NONE");
        s.tell("TRACE: of the latest act()", "person 0 0 0 0 = 0", "act 0 2 0", "count 6 = 3", "act 0 0 0",
            "count 6 = 1", "trace 0 = 10", "trace 1 = NONE", "act 0 1 0", "trace 0 = 11", "trace 1 = 10",
            "trace 2 = NONE");
    }

    private static void taken() {
        s.tell("33: BAD, k 0 .. 6", "person 6 0 0 0 = 0", "! taken 0 -1 = BAD", "! taken 0 7 = BAD",
            "! taken 0 8 = BAD", "! taken 0 MIN = BAD", "! taken 0 MAX = BAD", "! taken 0 0 = 6", "! taken 0 6 = 6");
        s.tell("33: NOTHING, no such PERSON", "! taken 0 0 = NOTHING", "person 6 0 0 0 = 0", "! taken 1 0 = NOTHING",
            "! taken -1 6 = NOTHING", "! taken MIN 0 = NOTHING", "! taken MAX 0 = NOTHING", "5x person 5 0 0 0",
            "taken 5 2 = 5", "taken 6 0 = NOTHING");
        s.tell("33: BAD ahead of NOTHING ahead of CAST", "! taken 0 7 = BAD", "! taken -1 -1 = BAD",
            "! taken 0 6 = NOTHING", "person 0 0 0 0 = 0", "! taken 0 6 = CAST", "! taken 1 6 = NOTHING",
            "! taken 1 7 = BAD");
        int[] above = {0, 0, 0, 0, 1, 2, 3};
        for (int kind = 0; kind <= 6; kind++) {
            for (int k = 0; k <= 6; k++) {
                boolean is = k == kind || k == above[kind] || k == 0;
                s.tell("33: KIND or one under that", "person " + kind + " 0 0 0 = 0",
                    "! taken 0 " + k + " = " + (is ? "" + kind : "CAST"));
            }
        }
    }

    private static void count() {
        s.tell("34: BAD, what 0 .. 6", "! count -1 = BAD", "! count 7 = BAD", "! count MIN = BAD", "! count MAX = BAD",
            "person 0 0 0 0 = 0", "act 0 1 0", "! count 0 = 1", "! count 6 = 2", "! count 7 = BAD");
        s.tell("34: at most", "6x person 6 0 0 0", "5x see 0 0 0", "10x week 0 0", "8x book 0 0", "100x feed 0",
            "act 0 2 0", "count 0 = 6", "count 1 = 0", "count 2 = 5", "count 3 = 10", "count 4 = 8", "count 5 = 100",
            "count 6 = 12");
    }

    private static void tape() {
        s.tell("35: NONE, TAPES 0 .. 5", "! tape -1 1 3 = NONE", "! tape 6 1 3 = NONE", "! tape MIN 1 3 = NONE",
            "! tape MAX 1 3 = NONE", "! tape 6 -1 0 = NONE", "tape 0 1 3 = 1", "tape 5 1 3 = 1", "read 0 2 = 0",
            "read 5 2 = 0");
        String[] past = {"tape 0 3 4 = 1", "item 0 0 9", "item 0 3 8"};
        s.tellBehind("35: BAD, sort -1 .. 4", past, "! tape 0 -2 3 = BAD", "! tape 0 5 3 = BAD", "! tape 0 MIN 3 = BAD",
            "! tape 0 MAX 3 = BAD", "read 0 3 = 8", "tape 0 0 3 = 1", "tape 0 4 3 = 1");
        s.tellBehind("35: BAD, n above 60", past, "! tape 0 0 61 = BAD", "! tape 0 4 61 = BAD", "! tape 0 1 MAX = BAD",
            "tape 0 1 60 = 1", "read 0 59 = 0", "read 0 60 = NO");
        s.tellBehind("35: SIZE, below 0", past, "! tape 0 0 -1 = SIZE", "! tape 0 4 -1 = SIZE", "! tape 0 1 MIN = SIZE",
            "tape 0 1 0 = 1", "read 0 0 = NO", "! item 0 0 1 = PLACE");
        s.tellBehind("35: NONE ahead of BAD ahead of SIZE", past, "! tape 6 5 61 = NONE", "! tape -1 0 -1 = NONE",
            "! tape 0 5 -1 = BAD", "! tape 0 -2 MIN = BAD", "! tape 0 5 61 = BAD");
        s.tellBehind("35: sort -1, n does not matter", past, "tape 0 -1 61 = 1", "! read 0 0 = NO",
            "! item 0 0 1 = NOTHING", "! tape 0 -1 -1 = 1", "! tape 0 -1 MIN = 1", "! tape 0 -1 MAX = 1",
            "! tape 0 -1 5 = 1", "read 0 0 = NO");
        s.tellBehind("35: all 0", past, "tape 0 3 4 = 1", "read 0 0 = 0", "read 0 3 = 0", "item 0 2 7", "tape 0 -1 0",
            "tape 0 3 4 = 1", "read 0 2 = 0", "item 0 3 7", "tape 0 3 2 = 1", "tape 0 3 4 = 1", "read 0 3 = 0");
        for (int sort = 0; sort <= 4; sort++) {
            s.tell("35: of a sort " + sort, "tape 2 " + sort + " 60 = 1", "read 2 0 = 0", "read 2 59 = 0",
                "read 2 60 = NO", "item 2 59 1 = 1", "item 2 60 1 = PLACE", "read 2 59 = 1", "read 2 58 = 0",
                "tape 2 " + sort + " 60 = 1", "read 2 59 = 0", "tape 2 " + sort + " 1 = 1", "read 2 0 = 0",
                "read 2 1 = NO");
        }
    }

    private static void item() {
        String[] past = {"tape 1 2 3 = 1", "item 1 2 8"};
        s.tellBehind("36: NONE", past, "! item -1 0 1 = NONE", "! item 6 0 1 = NONE", "! item MIN 0 1 = NONE",
            "! item MAX 9 1 = NONE");
        s.tellBehind("36: NOTHING", past, "! item 0 0 1 = NOTHING", "! item 5 -1 1 = NOTHING",
            "! item 2 60 1 = NOTHING");
        s.tellBehind("36: PLACE", past, "! item 1 -1 1 = PLACE", "! item 1 3 1 = PLACE", "! item 1 4 1 = PLACE",
            "! item 1 59 1 = PLACE", "! item 1 60 1 = PLACE", "! item 1 MIN 1 = PLACE", "! item 1 MAX 1 = PLACE",
            "item 1 0 5 = 1", "item 1 2 6 = 1", "read 1 0 = 5", "read 1 1 = 0", "read 1 2 = 6");
        String[][] values = { {"127 127", "128 -128", "255 -1", "256 0", "-128 -128", "-129 127", "MOST -1", "LEAST 0"},
            {"32767 32767", "32768 -32768", "65535 -1", "65536 0", "-32768 -32768", "-32769 32767", "MOST -1",
            "LEAST 0"}, {"MAX 2147483647", "2147483648 -2147483648", "4294967295 -1", "4294967296 0", "MIN -2147483648",
            "-2147483649 2147483647", "MOST -1", "LEAST 0"}, {"MOST 9223372036854775807", "LEAST -9223372036854775808",
            "4294967296 4294967296", "-1 -1"}, {"0 0", "1 1", "2 1", "-1 1", "256 1", "4294967296 1", "MOST 1",
            "LEAST 1"}};
        for (int sort = 0; sort <= 4; sort++) {
            for (String v : values[sort]) {
                String put = v.substring(0, v.indexOf(' '));
                String is = v.substring(v.indexOf(' ') + 1);
                s.tell("36: its lowest bits, sort " + sort, "tape 0 " + sort + " 3 = 1", "item 0 1 " + put + " = 1",
                    "read 0 1 = " + is, "read 0 0 = 0", "read 0 2 = 0", "item 0 1 0 = 1", "read 0 1 = 0");
            }
        }
    }

    private static void read() {
        String[] past = {"tape 1 2 3 = 1", "item 1 0 7", "item 1 2 8"};
        s.tellBehind("37: NO, no such TAPE", past, "! read -1 0 = NO", "! read 6 0 = NO", "! read MIN 0 = NO",
            "! read MAX 0 = NO");
        s.tellBehind("37: NO, nothing there", past, "! read 0 0 = NO", "! read 5 0 = NO", "tape 1 -1 0",
            "! read 1 0 = NO");
        s.tellBehind("37: NO, no such place", past, "! read 1 -1 = NO", "! read 1 3 = NO", "! read 1 4 = NO",
            "! read 1 59 = NO", "! read 1 60 = NO", "! read 1 MIN = NO", "! read 1 MAX = NO", "! read 1 0 = 7",
            "! read 1 2 = 8");
    }

    private static void shift() {
        String[] past = {"tape 0 2 5 = 1", "item 0 0 1", "item 0 1 2", "item 0 2 3", "item 0 3 4", "item 0 4 5",
            "tape 1 2 3 = 1", "item 1 0 7", "item 1 1 8", "item 1 2 9", "tape 2 1 5 = 1", "tape 3 2 0 = 1"};
        s.tellBehind("38: NONE, tapes", past, "! shift -1 0 0 0 1 = NONE", "! shift 6 0 0 0 1 = NONE",
            "! shift 0 0 -1 0 1 = NONE", "! shift 0 0 6 0 1 = NONE", "! shift MIN 0 0 0 0 = NONE",
            "! shift 0 0 MAX 0 0 = NONE", "! shift 6 0 6 0 0 = NONE");
        s.tellBehind("38: NOTHING", past, "! shift 4 0 0 0 1 = NOTHING", "! shift 0 0 4 0 1 = NOTHING",
            "! shift 4 0 5 0 0 = NOTHING", "! shift 4 0 4 0 0 = NOTHING");
        s.tellBehind("38: CAST, of unlike sorts", past, "! shift 0 0 2 0 1 = CAST", "! shift 2 0 0 0 1 = CAST",
            "! shift 2 0 3 0 0 = CAST");
        s.tellBehind("38: PLACE, below 0", past, "! shift 0 0 1 0 -1 = PLACE", "! shift 0 -1 1 0 1 = PLACE",
            "! shift 0 0 1 -1 1 = PLACE", "! shift 0 -1 1 0 0 = PLACE", "! shift 0 0 1 -1 0 = PLACE",
            "! shift 0 0 1 0 MIN = PLACE", "! shift 0 MIN 1 0 1 = PLACE", "! shift 0 0 1 MIN 1 = PLACE",
            "! shift 0 5 1 3 -1 = PLACE");
        s.tellBehind("38: PLACE, beyond either's end", past, "! shift 0 3 1 0 3 = PLACE", "! shift 0 0 1 1 3 = PLACE",
            "! shift 0 0 1 0 4 = PLACE", "! shift 1 0 0 0 4 = PLACE", "! shift 0 5 1 0 1 = PLACE",
            "! shift 0 0 1 3 1 = PLACE", "! shift 0 6 1 0 0 = PLACE", "! shift 0 0 1 4 0 = PLACE",
            "! shift 0 0 3 0 1 = PLACE", "! shift 3 0 0 0 1 = PLACE");
        s.tellBehind("38: PLACE, far beyond", past, "! shift 0 MAX 1 0 1 = PLACE", "! shift 0 0 1 MAX 1 = PLACE",
            "! shift 0 0 1 0 MAX = PLACE", "! shift 0 MAX 1 MAX MAX = PLACE", "! shift 0 1 1 1 MAX = PLACE",
            "! shift 0 MAX 1 0 0 = PLACE", "! shift 0 MAX 0 MAX 1 = PLACE", "! shift 0 MIN 0 MIN MIN = PLACE");
        s.tellBehind("38: up to both ends", past, "! shift 0 5 1 3 0 = 0", "! shift 0 0 1 0 0 = 0",
            "! shift 3 0 0 5 0 = 0", "! shift 0 0 3 0 0 = 0", "shift 0 2 1 0 3 = 3", "read 1 0 = 3", "read 1 2 = 5",
            "shift 0 4 1 2 1 = 1", "shift 1 0 0 2 3 = 3", "read 0 1 = 2", "read 0 2 = 3", "read 0 4 = 5");
        s.tellBehind("38: the one it is from is as it was", past, "shift 0 1 1 0 2 = 2", "read 0 0 = 1", "read 0 1 = 2",
            "read 0 2 = 3", "read 1 0 = 2", "read 1 1 = 3", "read 1 2 = 9");
        s.tellBehind("38: NONE ahead of NOTHING ahead of CAST ahead of PLACE", past, "! shift 6 -1 4 0 1 = NONE",
            "! shift 4 0 6 0 1 = NONE", "! shift 4 -1 2 0 1 = NOTHING", "! shift 2 0 4 0 -1 = NOTHING",
            "! shift 0 -1 2 0 1 = CAST", "! shift 2 0 0 0 -1 = CAST", "! shift 0 0 2 0 61 = CAST");
        for (int sort = 0; sort <= 4; sort++) {
            s.tell("38: of a sort " + sort, "tape 0 " + sort + " 2", "tape 1 " + sort + " 2", "item 0 1 1",
                "shift 0 1 1 0 1 = 1", "read 1 0 = 1", "read 1 1 = 0", "shift 1 0 0 0 2 = 2", "read 0 0 = 1",
                "read 0 1 = 0");
        }
    }

    private static void shiftOfTheSame() {
        String[] past = {"tape 0 2 5 = 1", "item 0 0 1", "item 0 1 2", "item 0 2 3", "item 0 3 4", "item 0 4 5"};
        s.tellBehind("38: as they all were before, onward", past, "shift 0 0 0 1 4 = 4", "read 0 0 = 1", "read 0 1 = 1",
            "read 0 2 = 2", "read 0 3 = 3", "read 0 4 = 4");
        s.tellBehind("38: as they all were before, back", past, "shift 0 1 0 0 4 = 4", "read 0 0 = 2", "read 0 1 = 3",
            "read 0 2 = 4", "read 0 3 = 5", "read 0 4 = 5");
        s.tellBehind("38: as they all were before, by two", past, "shift 0 0 0 2 3 = 3", "read 0 0 = 1", "read 0 1 = 2",
            "read 0 2 = 1", "read 0 3 = 2", "read 0 4 = 3");
        s.tellBehind("38: in its place", past, "! shift 0 0 0 0 5 = 5", "! shift 0 2 0 2 3 = 3",
            "! shift 0 5 0 5 0 = 0", "! shift 0 5 0 5 1 = PLACE", "! shift 0 1 0 0 5 = PLACE",
            "! shift 0 0 0 1 5 = PLACE");
    }
}
