/** Promise 1: a new object. */
public final class NewObjectTest {
    private static final int[] COUNTS = {0, 0, 0, 30, 10, 50, 0, 0, 0, 0, 0, 0, 10, 30, 30, 0, 0, 0};
    private static final int[] FIELD = {10, 10, 0, 0, 0, 0, -9, 0, -9, -9, -9};

    public static void main(String[] args) {
        Check check = new Check("NewObjectTest");
        HedgeChains x = new HedgeChains();
        for (int what = 0; what < COUNTS.length; what++) {
            check.due("count(" + what + ")", x.count(what), COUNTS[what]);
        }
        for (int field = 0; field < 6; field++) {
            for (int what = 0; what < FIELD.length; what++) {
                check.due("field(" + field + ", " + what + ")", x.field(field, what), FIELD[what]);
            }
            for (int chain = 0; chain < 10; chain++) {
                check.due("kind", x.chain(field, chain, 0), 0);
                check.due("thickness", x.chain(field, chain, 1), 4);
                check.due("age", x.chain(field, chain, 2), 0);
            }
            check.due("chain 10", x.chain(field, 10, 0), Calls.INVALID);
        }
        check.due("undo()", x.undo(), Calls.ILLEGAL);
        check.due("restore(0)", x.restore(0), Calls.ILLEGAL);
        check.due("restore(1)", x.restore(1), Calls.ILLEGAL);
        check.due("clearText()", x.clearText(), 0);
        apart(check);
        check.end();
    }

    /** Two objects share nothing. */
    private static void apart(Check check) {
        HedgeChains one = new HedgeChains();
        HedgeChains other = new HedgeChains();
        String before = Calls.seen(other);
        one.lay(0, 0, 3);
        one.append('t');
        one.take(0);
        one.contract(2, 1, 2, 3);
        one.pass(5);
        check.due("the other object is as before", Calls.seen(other).equals(before) ? 1 : 0, 1);
    }
}
