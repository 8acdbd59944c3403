import java.util.ArrayList;
import java.util.List;

/** "What is answered so changes nothing; what is asked changes nothing": with nobody there, with some, with all. */
public final class EdgesUnmovedTest {
    private static final Checks c = new Checks("EdgesUnmovedTest");
    private static final Story s = new Story(c);

    private static final String[] NOBODY = {};
    // Three of whom two ring and one is AWAY, a TOWN, a start of another, some rows of everything.
    private static final String[] SOME = {"person 6 0 10 8 = 0", "person 1 2 30 -8 = 1", "person 0 0 50 20 = 2",
        "row 0 1 4 = 0", "row 0 2 6 = 0", "text lag 6 p=2;lag 5 p=1&d<9;lag 3 p=0;fast 1;loud 6", "town = 0",
        "text lag 4 p", "see 0 7 1 = 1", "see 2 20 0 = 2", "week 0 0 = 1", "week 3 1 = 2", "week 2 2 = 3",
        "week 0 0 = 4", "book 0 8 = 1", "book 1 -7 = 2", "tape 0 1 5 = 1", "item 0 1 8", "item 0 2 -8",
        "tape 1 2 3 = 1", "item 1 2 77", "tape 2 4 2 = 1", "item 2 0 1", "tape 3 3 0 = 1", "image = 3", "off 1 -9 = -8",
        "away 0 true = 0", "pass 2", "act 0 2 9"};
    // No place is left anywhere; all of SEEN and of the BOOK is so.
    private static final String[] ALL = {"person 6 0 0 0 = 0", "person 1 1 30 8 = 1", "person 2 0 60 -9 = 2",
        "person 6 5 90 40 = 3", "person 4 2 99 -30 = 4", "person 0 9 20 12 = 5", "row 0 0 5 = 0", "row 3 3 9 = 0",
        "text fast 1", "town = 0", "text fast 2", "town = 1", "text fast 3", "town = 2", "text fast 4", "town = 3",
        "text fast 5", "town = 4", "text lag 6 p=5;lag 7 p=0;fast 1", "town = 5", "60x feed 102", "see 0 0 0 = 1",
        "see 1 8 0 = 2", "see 2 -9 0 = 3", "see 3 40 0 = 4", "see 5 12 0 = 5", "week 1 1 = 1", "8x week 0 0",
        "week 2 1 = 10", "book 0 0 = 1", "book 1 8 = 2", "book 2 -9 = 3", "book 3 40 = 4", "book 4 -30 = 5",
        "3x book 5 12", "tape 0 1 60 = 1", "tape 1 0 60 = 1", "tape 2 2 60 = 1", "tape 3 3 60 = 1", "tape 4 4 60 = 1",
        "tape 5 1 60 = 1", "item 5 59 3", "image = 6", "away 4 true = 0", "act 3 2 9"};

    private static final String[] ASKED = {"told #", "of 0 #", "of 1 #", "of 2 #", "of # 7", "on 0 #", "on 60 #",
        "on 7 1#", "until #", "prompt", "best #", "when #", "apart 0 1 #", "apart 1 2 60", "apart 2 0 30",
        "apart # 0 5", "apart 0 # 5", "who 6 #", "who 7 #", "who 13 0", "who 3 40", "was # 0", "was # 1", "can # 0",
        "can # 1", "odds # 0", "odds # 1", "odds 60 0", "mean # 0", "mean # 1", "mean 60 1", "gone #", "looked",
        "judge # 0", "judge 0 #", "judge 5 59", "trace #", "trace 19", "taken # 0", "taken 0 #", "taken 1 #", "count #",
        "read # 0", "read 0 #", "read 5 59"};
    private static final String[] REFUSED = {"person -1 0 0 0", "person 7 0 0 0", "person 0 10 0 0", "person 0 0 100 0",
        "person 0 0 0 1000", "of 6 0", "off 6 0", "off -1 0", "off 0 1000", "off 0 -1000", "due 6 0", "due -1 0",
        "due 0 100", "due 0 -1", "away 6 true", "away -1 true", "row 6 0 0", "row 0 4 0", "row 0 0 10", "row 1 0 1",
        "feed -1", "feed 128", "pass -1", "pass 61", "on 61 0", "on 0 16", "until 3", "best 6", "when 6", "apart 0 0 1",
        "apart 0 1 61", "apart 0 6 1", "who 0 0", "who 100 0", "who 5 41", "see 6 0 0", "see -2 0 0", "see 0 1000 0",
        "see 0 0 21", "was 6 0", "was 0 2", "can 6 0", "can 0 2", "odds 61 0", "mean 0 2", "week 4 0", "week -2 0",
        "week 1 6", "week 3 -1", "gone 2", "book 6 0", "book -2 0", "book 0 1000", "judge 6 0", "taken 0 7",
        "taken 6 0", "count 7", "tape 6 1 3", "tape -1 -1 0", "tape 0 5 3", "tape 0 -2 3", "tape 0 1 61", "tape 0 1 -1",
        "item 6 0 1", "item 0 60 1", "item 0 -1 1", "read 6 0", "shift 6 0 0 0 1", "shift 0 0 6 0 1", "shift 0 0 1 0 1",
        "shift 0 0 0 0 61", "shift 0 58 0 0 3", "shift 0 0 0 58 3", "shift 0 0 0 0 -1", "trace -1",
        "undo when there is none"};
    private static final String[] FULL = {"person 0 0 0 0", "see 0 1 1", "see 1 1 20", "week 3 0", "week 0 0",
        "week 1 2", "book 0 5", "book 5 13", "town"};

    public static void main(String[] args) {
        for (String call : asked()) {
            s.tellBehind("nobody: what is asked changes nothing", NOBODY, "! " + call);
            s.tellBehind("some: what is asked changes nothing", SOME, "! " + call);
            s.tellBehind("all: what is asked changes nothing", ALL, "! " + call);
        }
        for (String call : REFUSED) {
            if (call.startsWith("undo")) {
                s.tellBehind("nobody: what is answered so changes nothing", NOBODY, "! undo = STATE");
                continue;
            }
            s.tellBehind("nobody: what is answered so changes nothing", NOBODY, "! " + call);
            s.tellBehind("some: what is answered so changes nothing", SOME, "! " + call);
            s.tellBehind("all: what is answered so changes nothing", ALL, "! " + call);
        }
        for (String call : FULL) {
            s.tellBehind("all: what is FULL changes nothing", ALL, "! " + call + " = FULL");
        }
        s.tellBehind("all: what is FULL changes nothing", ALL, "40x feed 102", "! feed 102 = FULL", "! feed 59 = FULL");
        s.tellBehind("all: no DAY above 9999", new String[] {"person 0 0 0 3 = 0", "166x pass 60 = 3", "pass 39 = 3"},
            "! pass 1 = STATE", "! pass 60 = STATE");
        again();
        c.end();
    }

    /** # stands for each number -2 .. 7. */
    private static List<String> asked() {
        List<String> all = new ArrayList<>();
        for (String call : ASKED) {
            for (int n = -2; n <= 7; n++) {
                String one = call.replace("1#", "" + (10 + n)).replace("#", "" + n);
                if (!all.contains(one)) {
                    all.add(one);
                }
            }
        }
        return all;
    }

    /** What was done just so already, and what is so already. */
    private static void again() {
        s.tellBehind("THE IMAGE is as it was", SOME, "image = 3", "! image = 3", "! undo = 3", "! pass 0 = 10");
        s.tellBehind("ACTS change THE TRACE alone", SOME, "! act 0 2 9", "act 1 1 4", "! act 1 1 4", "act 9 9 9 = 0",
            "! act 0 3 1 = 0", "! act 3 0 1 = 0");
        s.tellBehind("as it is already", SOME, "! off 0 10 = 10", "! due 0 10 = 10", "! away 0 true = 1",
            "! row 0 1 4 = 4", "! item 1 2 77 = 1", "! shift 0 0 0 0 5 = 5", "! shift 0 0 0 3 0 = 0");
    }
}
