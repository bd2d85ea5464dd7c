/** Promises 17 to 19: count, field, chain. */
public final class LookingTest {
    private static final Check CHECK = new Check("LookingTest");

    public static void main(String[] args) {
        counts();
        fields();
        runs();
        chains();
        CHECK.end();
    }

    private static void due(String call, long got, long want) {
        CHECK.due(call, got, want);
    }

    private static void counts() {
        HedgeChains x = Calls.with(0, "g*4t3*4");
        x.contract(0, 6, 0, 9);
        x.contract(1, 2, 50, 1);
        x.lay(0, 4, 2);
        x.plant(0, 0);
        x.pass(3);
        x.take(1);
        x.set(0, 3);
        x.set(1, 5);
        x.set(2, 40);
        x.cut(1, 0);
        x.append('g');
        int[] due = {3, 3, 1, 40, 6, 5, 0, 12, 54, 2, 2, 1, 3, 5, 40, 1, 5, 1};
        for (int what = 0; what < due.length; what++) {
            due("count(" + what + ")", x.count(what), due[what]);
        }
        due("count(18)", x.count(18), Calls.INVALID);
        for (int bad : Calls.BEYOND) {
            due("count(bad)", x.count(bad), Calls.INVALID);
        }
        x.undo();
        x.pass(50);
        due("week", x.count(0), 53);
        due("week of the year", x.count(1), 1);
    }

    private static void fields() {
        HedgeChains x = Calls.with(5, "t4*3l2g*4p*5l3*2");
        x.contract(5, 11, 22, 3);
        int[] due = {15, 3, 3, 4, 5, 2, 13, 1, 11, 22, 3};
        for (int what = 0; what < due.length; what++) {
            due("field(5, " + what + ")", x.field(5, what), due[what]);
        }
        due("field(5, 11)", x.field(5, 11), Calls.INVALID);
        due("field(6, 0)", x.field(6, 0), Calls.INVALID);
        for (int bad : Calls.BEYOND) {
            due("field(bad, 0)", x.field(bad, 0), Calls.INVALID);
            due("field(5, bad)", x.field(5, bad), Calls.INVALID);
        }
    }

    private static void runs() {
        String[] texts = {"g", "l1", "l1*30", "gl1", "l1gl1", "l1gl2*2", "l3*2gl4*2", "tl1*3", "t1l1*3t1l1*3g", "l1*2pl1*3t5l1*2"};
        int[] lengths = {0, 1, 30, 1, 1, 2, 2, 0, 3, 3};
        int[] begins = {-9, 0, 0, 1, 0, 2, 0, -9, 1, 3};
        for (int i = 0; i < texts.length; i++) {
            HedgeChains x = Calls.with(2, texts[i]);
            due("longest run of " + texts[i], x.field(2, 5), lengths[i]);
            due("where it begins", x.field(2, 6), begins[i]);
        }
    }

    private static void chains() {
        HedgeChains x = Calls.with(1, "t7l6gp");
        x.pass(3);
        int[][] due = {{0, 7, 0}, {1, 6, 0}, {2, 0, 0}, {3, 0, 3}};
        for (int chain = 0; chain < 4; chain++) {
            for (int what = 0; what < 3; what++) {
                due("chain(1, " + chain + ", " + what + ")", x.chain(1, chain, what), due[chain][what]);
            }
            due("chain(1, " + chain + ", 3)", x.chain(1, chain, 3), Calls.INVALID);
        }
        due("chain(1, 4, 0)", x.chain(1, 4, 0), Calls.INVALID);
        due("chain(6, 0, 0)", x.chain(6, 0, 0), Calls.INVALID);
        for (int bad : Calls.BEYOND) {
            due("chain(bad, 0, 0)", x.chain(bad, 0, 0), Calls.INVALID);
            due("chain(1, bad, 0)", x.chain(1, bad, 0), Calls.INVALID);
            due("chain(1, 0, bad)", x.chain(1, 0, bad), Calls.INVALID);
        }
    }
}
