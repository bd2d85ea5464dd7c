/** Promises 11 to 13: take, restore, undo. */
public final class SnapshotTest {
    private static final Check CHECK = new Check("SnapshotTest");

    public static void main(String[] args) {
        takes();
        restores();
        contractsComeBack();
        slotErrors();
        undoes();
        undoesSlots();
        textStays();
        everyAction();
        CHECK.end();
    }

    private static void due(String call, long got, long want) {
        CHECK.due(call, got, want);
    }

    private static HedgeChains busy() {
        HedgeChains x = Calls.with(2, "t5*4l3*2gp");
        x.contract(2, 3, 1, 1);
        x.lay(2, 0, 2);
        x.cut(2, 2);
        x.plant(2, 6);
        x.set(0, 20);
        x.set(2, 33);
        x.pass(7);
        return x;
    }

    private static void takes() {
        HedgeChains x = busy();
        due("no snapshots", x.count(15), 0);
        due("take(1)", x.take(1), 7);
        due("one", x.count(15), 1);
        x.pass(2);
        due("take(1) in its place", x.take(1), 9);
        due("one yet", x.count(15), 1);
        due("take(0)", x.take(0), 9);
        due("two", x.count(15), 2);
        x.pass(3);
        due("restore(1)", x.restore(1), 9);
    }

    private static void restores() {
        HedgeChains x = busy();
        x.take(0);
        String before = Calls.seenBesidesHistory(x);
        x.lay(2, 3, 1);
        x.giveBack(2);
        x.contract(2, 8, 9, 1);
        x.grub(2, 0);
        x.plant(2, 0);
        x.set(0, 5);
        x.set(1, 20);
        x.set(2, 90);
        Calls.readHedge(x, 5, "t2");
        x.contract(4, 5, 6, 7);
        x.pass(60);
        due("each number but that of snapshots is another one", sameCounts(before, Calls.counted(x)), 1);
        due("restore(0)", x.restore(0), 7);
        due("all is as it was", Calls.seenBesidesHistory(x).equals(before) ? 1 : 0, 1);
        due("the history goes on", x.count(16), 5);
        x.pass(9);
        due("it stays", x.restore(0), 7);
        due("all is as it was", Calls.seenBesidesHistory(x).equals(before) ? 1 : 0, 1);
        x.pass(1);
        x.take(1);
        due("restore(0) leaves slot 1", x.restore(0), 7);
        due("two snapshots", x.count(15), 2);
        due("restore(1)", x.restore(1), 8);
    }

    private static void contractsComeBack() {
        HedgeChains x = new HedgeChains();
        x.contract(3, 4, 5, 6);
        x.take(0);
        x.giveBack(3);
        x.contract(3, 7, 8, 9);
        due("undo()", x.undo(), 3);
        due("no contract", x.field(3, 7), 0);
        due("another one", x.contract(3, 10, 11, 2), 10);
        due("restore(0)", x.restore(0), 0);
        due("price", x.field(3, 8), 4);
        due("last week", x.field(3, 9), 5);
        due("fine", x.field(3, 10), 6);
        due("undo()", x.undo(), 4);
        due("price", x.field(3, 8), 10);
        due("last week", x.field(3, 9), 11);
        due("fine", x.field(3, 10), 2);
    }

    /** A number that stayed the same would not show whether it is restored. */
    private static int sameCounts(String before, String after) {
        String[] one = before.split(" ");
        String[] other = after.split(" ");
        int same = 0;
        for (int what = 0; what < 16; what++) {
            same += one[what].equals(other[what]) ? 1 : 0;
        }
        return same;
    }

    private static void slotErrors() {
        HedgeChains x = busy();
        String before = Calls.seen(x);
        int[] bad = {-1, 2, 3, Integer.MIN_VALUE, Integer.MAX_VALUE};
        for (int slot : bad) {
            due("take(bad)", x.take(slot), Calls.INVALID);
            due("restore(bad)", x.restore(slot), Calls.INVALID);
        }
        due("restore(0)", x.restore(0), Calls.ILLEGAL);
        due("restore(1)", x.restore(1), Calls.ILLEGAL);
        due("nothing has changed", Calls.seen(x).equals(before) ? 1 : 0, 1);
        x.take(0);
        due("restore(1)", x.restore(1), Calls.ILLEGAL);
    }

    private static void undoes() {
        HedgeChains x = new HedgeChains();
        String[] before = new String[7];
        for (int i = 0; i < 7; i++) {
            before[i] = Calls.counted(x);
            due("states", x.count(16), Math.min(i, 5));
            x.pass(i + 1);
        }
        for (int left = 4; left >= 0; left--) {
            due("undo()", x.undo(), left);
            due("as before", Calls.counted(x).equals(before[left + 2]) ? 1 : 0, 1);
        }
        due("undo() of an empty history", x.undo(), Calls.ILLEGAL);
        due("week", x.count(0), 3);
        x.pass(1);
        due("states", x.count(16), 1);
        due("undo()", x.undo(), 0);
        due("week", x.count(0), 3);
    }

    private static void undoesSlots() {
        HedgeChains x = new HedgeChains();
        x.pass(1);
        x.take(0);
        x.pass(1);
        x.take(0);
        due("undo() of the second take", x.undo(), 3);
        due("one snapshot", x.count(15), 1);
        due("the first one is back", x.restore(0), 1);
        due("undo() of the restore", x.undo(), 3);
        due("week", x.count(0), 2);
        due("undo() of the pass", x.undo(), 2);
        due("undo() of the first take", x.undo(), 1);
        due("no snapshot", x.count(15), 0);
        due("restore(0)", x.restore(0), Calls.ILLEGAL);
    }

    private static void textStays() {
        HedgeChains x = new HedgeChains();
        Calls.typed(x, "t2");
        x.take(0);
        Calls.typed(x, "t3");
        x.restore(0);
        due("restore leaves the text", x.count(17), 4);
        x.undo();
        due("undo leaves the text", x.count(17), 4);
        due("read(0)", x.read(0), 2);
        due("undo()", x.undo(), 1);
        due("the hedge is back", x.field(0, 0), 10);
        due("the text is not", x.count(17), 0);
    }

    /** Every action keeps a state, even one by which nothing changes; what is none, or fails, keeps none. */
    private static void everyAction() {
        HedgeChains x = busy();
        x.set(0, 12);
        for (int i = 0; i < 5; i++) {
            x.undo();
        }
        due("empty", x.count(16), 0);
        due("set to the same", x.set(1, 30), 30);
        due("a state", x.count(16), 1);
        x.take(1);
        due("take", x.count(16), 2);
        x.restore(1);
        due("restore", x.count(16), 3);
        x.append('t');
        x.clearText();
        x.toLay(0, 0);
        x.stakesIn(0);
        x.doneIn(0);
        x.bestOrder(0);
        x.cut(9, 9);
        x.read(0);
        x.payDebt();
        due("no action", x.count(16), 3);
        Calls.readHedge(x, 1, "gt4");
        due("read", x.count(16), 4);
        x.plant(1, 0);
        due("plant", x.count(16), 5);
        for (int i = 0; i < 5; i++) {
            x.undo();
        }
        x.contract(1, 1, 1, 1);
        due("contract", x.count(16), 1);
        x.giveBack(1);
        due("giveBack", x.count(16), 2);
        x.grub(1, 1);
        due("grub", x.count(16), 3);
        x.cut(1, 2);
        due("cut", x.count(16), 4);
        x.lay(1, 3, 1);
        due("lay", x.count(16), 5);
    }
}
