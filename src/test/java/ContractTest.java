/** Promises 8 to 10: contract, giveBack, payDebt. */
public final class ContractTest {
    private static final Check CHECK = new Check("ContractTest");

    public static void main(String[] args) {
        contracts();
        contractErrors();
        endings();
        givesBack();
        paysDebt();
        CHECK.end();
    }

    private static void due(String call, long got, long want) {
        CHECK.due(call, got, want);
    }

    private static void contracts() {
        HedgeChains x = Calls.with(3, "t1*3l4g");
        x.pass(5);
        due("contract(3, 20, 100, 9)", x.contract(3, 20, 100, 9), 3);
        due("there is one", x.field(3, 7), 1);
        due("price", x.field(3, 8), 20);
        due("last week", x.field(3, 9), 105);
        due("fine", x.field(3, 10), 9);
        due("contract(0, 0, 0, 0)", x.contract(0, 0, 0, 0), 10);
        due("price", x.field(0, 8), 0);
        due("last week", x.field(0, 9), 5);
        due("fine", x.field(0, 10), 0);
        due("contracts", x.count(9), 2);
        due("states", x.count(16), 4);
        due("purse", x.count(5), 50);
    }

    private static void contractErrors() {
        HedgeChains x = Calls.with(3, "l2gp");
        String before = Calls.seen(x);
        int[][] bad = {{6, 0, 0, 0}, {-1, 0, 0, 0}, {0, 21, 0, 0}, {0, -1, 0, 0}, {0, 0, 101, 0}, {0, 0, -1, 0},
            {0, 0, 0, 10}, {0, 0, 0, -1}, {3, 21, 0, 0}};
        for (int[] a : bad) {
            due("contract with a bad argument", x.contract(a[0], a[1], a[2], a[3]), Calls.INVALID);
        }
        for (int beyond : Calls.BEYOND) {
            due("contract(beyond, 0, 0, 0)", x.contract(beyond, 0, 0, 0), Calls.INVALID);
            due("contract(0, beyond, 0, 0)", x.contract(0, beyond, 0, 0), Calls.INVALID);
            due("contract(0, 0, beyond, 0)", x.contract(0, 0, beyond, 0), Calls.INVALID);
            due("contract(0, 0, 0, beyond)", x.contract(0, 0, 0, beyond), Calls.INVALID);
        }
        due("none stands", x.contract(3, 0, 0, 0), Calls.ILLEGAL);
        due("nothing has changed", Calls.seen(x).equals(before) ? 1 : 0, 1);
        x.contract(0, 1, 2, 3);
        due("a second one", x.contract(0, 4, 5, 6), Calls.ILLEGAL);
        due("the first one stays", x.field(0, 8), 1);
    }

    private static void endings() {
        HedgeChains x = new HedgeChains();
        x.contract(0, 1, 2, 3);
        due("read a hedge with one that stands", Calls.readHedge(x, 0, "l3t1"), 2);
        due("it goes on", x.field(0, 7), 1);
        due("read a hedge with none that stands", Calls.readHedge(x, 0, "l3gp"), 3);
        due("it has ended", x.field(0, 7), 0);
        due("price", x.field(0, 8), Calls.NONE);
        due("last week", x.field(0, 9), Calls.NONE);
        due("fine", x.field(0, 10), Calls.NONE);
        due("pass: no fine any more", x.pass(10), 0);
        due("one stands again, without a contract", x.field(0, 7), 0);
        due("a new one can be made", x.contract(0, 1, 0, 1), 1);
        due("a thin one that stands keeps it", x.pass(1), 1);
    }

    private static void givesBack() {
        HedgeChains x = new HedgeChains();
        x.contract(0, 1, 2, 9);
        x.contract(1, 1, 2, 0);
        x.contract(2, 1, 2, 4);
        due("giveBack(0)", x.giveBack(0), 45);
        due("purse", x.count(5), 5);
        due("no contract", x.field(0, 7), 0);
        due("giveBack(0) again", x.giveBack(0), Calls.ILLEGAL);
        due("giveBack(2)", x.giveBack(2), 20);
        due("purse", x.count(5), 0);
        due("debt", x.count(6), 15);
        due("it is no fine", x.count(8), 0);
        due("giveBack(1)", x.giveBack(1), 0);
        due("contracts", x.count(9), 0);
        due("giveBack(6)", x.giveBack(6), Calls.INVALID);
        for (int bad : Calls.BEYOND) {
            due("giveBack(bad)", x.giveBack(bad), Calls.INVALID);
        }
        due("states", x.count(16), 5);
    }

    private static void paysDebt() {
        HedgeChains x = new HedgeChains();
        due("no debt", x.payDebt(), Calls.ILLEGAL);
        x.contract(0, 9, 0, 6);
        due("pass(1)", x.pass(1), 60);
        due("debt", x.count(6), 10);
        due("the purse is empty", x.payDebt(), Calls.ILLEGAL);
        due("lay one", x.lay(0, 0, 1), 1);
        due("as far as it goes", x.payDebt(), 9);
        due("debt", x.count(6), 1);
        due("purse", x.count(5), 0);
        due("lay one", x.lay(0, 1, 1), 1);
        due("all", x.payDebt(), 1);
        due("debt", x.count(6), 0);
        due("purse", x.count(5), 8);
        due("no debt any more", x.payDebt(), Calls.ILLEGAL);
        due("undo()", x.undo(), 4);
        due("debt", x.count(6), 1);
    }
}
