/** Promise 1: nobody, no TOWN, nothing told. */
public final class NewObjectTest {
    public static void main(String[] args) {
        Checks c = new Checks("NewObjectTest");
        PealOfExcuses x = new PealOfExcuses();
        for (int what = 0; what <= 6; what++) {
            c.due("count(" + what + ")", x.count(what), 0);
        }
        c.due("undo()", x.undo(), PealOfExcuses.STATE);
        c.due("told(0)", x.told(0), 0);
        c.due("told(1)", x.told(1), 0);
        c.due("told(2)", x.told(2), 5);
        c.due("told(3)", x.told(3), 0);
        c.due("told(4)", x.told(4), 0);
        c.due("told(5)", x.told(5), 0);
        c.due("trace(0)", x.trace(0), -1);
        for (int tape = 0; tape < 6; tape++) {
            c.due("item(" + tape + ", 0, 1)", x.item(tape, 0, 1), -11);
        }
        besideAnother(c);
        c.end();
    }

    private static void besideAnother(Checks c) {
        PealOfExcuses one = new PealOfExcuses();
        PealOfExcuses other = new PealOfExcuses();
        one.person(6, 1, 2, 3);
        one.tape(0, 1, 2);
        one.act(0, 2, 1);
        Checks.town(one, "fast 1");
        one.feed('x');
        one.pass(1);
        one.image();
        for (int what = 0; what <= 6; what++) {
            c.due("count(" + what + ") of another one", other.count(what), 0);
        }
        c.due("told(0) of another one", other.told(0), 0);
        c.due("told(1) of another one", other.told(1), 0);
        c.due("undo() of another one", other.undo(), PealOfExcuses.STATE);
        c.due("read(0, 0) of another one", other.read(0, 0), PealOfExcuses.NO);
        c.due("OFF of the one", one.of(0, 3), 4);
    }
}
