/** Promises 2 to 7: lay, cut, plant, grub, pass, set. */
public final class WorkTest {
    private static final Check CHECK = new Check("WorkTest");

    public static void main(String[] args) {
        lays();
        layStops();
        layErrors();
        cuts();
        plants();
        grubs();
        passes();
        grows();
        laidGrow();
        fines();
        passErrors();
        sets();
        closedWeeks();
        CHECK.end();
    }

    private static void due(String call, long got, long want) {
        CHECK.due(call, got, want);
    }

    private static void lays() {
        HedgeChains x = new HedgeChains();
        due("lay(2, 3, 2)", x.lay(2, 3, 2), 2);
        due("work", x.count(3), 22);
        due("stakes", x.count(4), 6);
        due("purse without a contract", x.count(5), 50);
        due("laid so far", x.count(10), 2);
        due("state kept", x.count(16), 1);
        for (int chain = 0; chain < 10; chain++) {
            due("kind of " + chain, x.chain(2, chain, 0), chain == 3 || chain == 4 ? 1 : 0);
            due("thickness of " + chain, x.chain(2, chain, 1), 4);
        }
        due("contract(2, 7, 0, 0)", x.contract(2, 7, 0, 0), 8);
        due("lay(2, 5, 30)", x.lay(2, 5, 30), 3);
        due("price for each", x.count(5), 71);
        due("coins that came", x.count(7), 21);
        due("stakes are used up", x.count(4), 0);
        HedgeChains last = Calls.with(1, "t2l3t2");
        due("contract", last.contract(1, 20, 5, 9), 2);
        due("lay(1, 0, 30) stops at the laid one", last.lay(1, 0, 30), 1);
        due("the contract is there yet", last.field(1, 7), 1);
        due("lay(1, 2, 30) to the end of the hedge", last.lay(1, 2, 30), 1);
        due("the price for the last one too", last.count(5), 90);
        due("the contract has ended", last.field(1, 7), 0);
        due("no contracts", last.count(9), 0);
    }

    private static void layStops() {
        HedgeChains thin = Calls.with(0, "t2t2t1t2");
        due("up to a thin one", thin.lay(0, 0, 30), 2);
        HedgeChains work = Calls.with(0, "t9*5");
        due("up to the end of the work", work.lay(0, 0, 30), 3);
        due("work left", work.count(3), 3);
        HedgeChains just = Calls.with(0, "t9*3t3t2");
        due("just all the work", just.lay(0, 0, 30), 4);
        due("no work left", just.count(3), 0);
        HedgeChains stakes = Calls.with(0, "t2*9");
        due("up to the end of the stakes", stakes.lay(0, 0, 30), 5);
        HedgeChains odd = Calls.with(0, "t3t2*9");
        due("cut(0, 0)", odd.cut(0, 0), 13);
        due("one stake is not enough", odd.lay(0, 1, 30), 6);
        due("one stake is left", odd.count(4), 1);
        due("not the next", odd.lay(0, 7, 1), Calls.ILLEGAL);
        HedgeChains many = new HedgeChains();
        due("as many as told", many.lay(0, 0, 1), 1);
        due("the last chain alone", many.lay(0, 9, 30), 1);
    }

    private static void layErrors() {
        HedgeChains x = Calls.with(0, "t1l4gp");
        String before = Calls.seen(x);
        for (int bad : Calls.BEYOND) {
            due("lay(bad, 0, 1)", x.lay(bad, 0, 1), Calls.INVALID);
            due("lay(1, bad, 1)", x.lay(1, bad, 1), Calls.INVALID);
            due("lay(1, 0, bad)", x.lay(1, 0, bad), Calls.INVALID);
        }
        due("lay(6, 0, 1)", x.lay(6, 0, 1), Calls.INVALID);
        due("lay(1, 10, 1)", x.lay(1, 10, 1), Calls.INVALID);
        due("lay(1, 0, 0)", x.lay(1, 0, 0), Calls.INVALID);
        due("lay(1, 0, 31)", x.lay(1, 0, 31), Calls.INVALID);
        for (int chain = 0; chain < 4; chain++) {
            due("lay(0, " + chain + ", 1)", x.lay(0, chain, 1), Calls.ILLEGAL);
        }
        due("INVALID ahead of ILLEGAL", x.lay(0, 0, 0), Calls.INVALID);
        due("nothing has changed", Calls.seen(x).equals(before) ? 1 : 0, 1);
        x.pass(10);
        due("in a closed week", x.lay(1, 0, 1), Calls.ILLEGAL);
        due("INVALID in a closed week", x.lay(1, 10, 1), Calls.INVALID);
    }

    private static void cuts() {
        HedgeChains x = Calls.with(4, "t9t3t2l9gp");
        due("cut(4, 0)", x.cut(4, 0), 19);
        due("thinner by 2", x.chain(4, 0, 1), 7);
        due("it stands", x.chain(4, 0, 0), 0);
        due("work", x.count(3), 29);
        due("cut(4, 1)", x.cut(4, 1), 22);
        due("of the thickness 1", x.chain(4, 1, 1), 1);
        due("too thin", x.cut(4, 1), Calls.ILLEGAL);
        for (int chain = 2; chain < 6; chain++) {
            due("cut(4, " + chain + ")", x.cut(4, chain), Calls.ILLEGAL);
        }
        due("states", x.count(16), 3);
        due("cut(4, 6)", x.cut(4, 6), Calls.INVALID);
        due("cut(6, 0)", x.cut(6, 0), Calls.INVALID);
        for (int bad : Calls.BEYOND) {
            due("cut(bad, 0)", x.cut(bad, 0), Calls.INVALID);
            due("cut(4, bad)", x.cut(4, bad), Calls.INVALID);
        }
        due("set(2, 1)", x.set(2, 1), 30);
        due("no work left", x.cut(4, 0), Calls.ILLEGAL);
        due("pass(1)", x.pass(1), 0);
        due("one work is enough", x.cut(4, 0), 29);
        due("none is left", x.count(3), 0);
        due("pass(9)", x.pass(9), 0);
        due("closed", x.cut(3, 0), Calls.ILLEGAL);
        due("INVALID in a closed week", x.cut(3, 10), Calls.INVALID);
    }

    private static void plants() {
        HedgeChains x = Calls.with(5, "g*20t2l2p");
        due("plant(5, 0)", x.plant(5, 0), 28);
        due("purse", x.count(5), 47);
        due("planted so far", x.count(11), 1);
        due("kind", x.chain(5, 0, 0), 3);
        due("thickness", x.chain(5, 0, 1), 0);
        due("age", x.chain(5, 0, 2), 0);
        due("no gap any more", x.plant(5, 0), Calls.ILLEGAL);
        for (int chain = 20; chain < 23; chain++) {
            due("plant(5, " + chain + ")", x.plant(5, chain), Calls.ILLEGAL);
        }
        due("plant(5, 23)", x.plant(5, 23), Calls.INVALID);
        for (int bad : Calls.BEYOND) {
            due("plant(bad, 0)", x.plant(bad, 0), Calls.INVALID);
            due("plant(5, bad)", x.plant(5, bad), Calls.INVALID);
        }
        for (int chain = 1; chain < 15; chain++) {
            due("plant(5, " + chain + ")", x.plant(5, chain), 28 - 2 * chain);
        }
        due("no work", x.plant(5, 15), Calls.ILLEGAL);
        due("purse", x.count(5), 5);
        due("pass(10)", x.pass(10), 0);
        due("in a closed week", x.plant(5, 15), 28);
        due("2 coins are too few", x.plant(5, 16), Calls.ILLEGAL);
        HedgeChains rich = Calls.with(0, "g*2");
        rich.contract(1, 0, 1, 9);
        rich.giveBack(1);
        rich.cut(2, 0);
        rich.contract(2, 1, 1, 0);
        due("a coin comes in", rich.lay(2, 1, 1), 1);
        due("6 coins", rich.plant(0, 0), 23);
        due("3 coins are enough", rich.plant(0, 1), 21);
        due("none is left", rich.count(5), 0);
        HedgeChains one = Calls.with(0, "g");
        one.set(2, 1);
        one.pass(1);
        due("1 of the work is too little", one.plant(0, 0), Calls.ILLEGAL);
        one.set(2, 2);
        due("2 of the work are enough", one.plant(0, 0), 0);
    }

    private static void grubs() {
        HedgeChains x = Calls.with(0, "t5l6gp");
        due("contract", x.contract(0, 1, 1, 1), 1);
        x.pass(10);
        due("a planted one that stands", x.grub(0, 3), 0);
        due("grub(0, 1)", x.grub(0, 1), 1);
        due("it is a gap", x.chain(0, 1, 0), 2);
        due("without thickness", x.chain(0, 1, 1), 0);
        due("grub(0, 2)", x.grub(0, 2), Calls.ILLEGAL);
        due("the contract is there yet", x.field(0, 7), 1);
        due("work", x.count(3), 30);
        due("grub(0, 0)", x.grub(0, 0), 0);
        due("the contract has ended", x.field(0, 7), 0);
        due("plant(0, 0)", x.plant(0, 0), 28);
        x.pass(3);
        due("age", x.chain(0, 0, 2), 3);
        due("grub(0, 0)", x.grub(0, 0), 3);
        due("age of a gap", x.chain(0, 0, 2), 0);
        due("grub(0, 4)", x.grub(0, 4), Calls.INVALID);
        due("grub(6, 0)", x.grub(6, 0), Calls.INVALID);
        for (int bad : Calls.BEYOND) {
            due("grub(bad, 0)", x.grub(bad, 0), Calls.INVALID);
            due("grub(0, bad)", x.grub(0, bad), Calls.INVALID);
        }
    }

    private static void passes() {
        HedgeChains x = new HedgeChains();
        x.lay(0, 0, 2);
        due("pass(1)", x.pass(1), 0);
        due("week", x.count(0), 1);
        due("all the work again", x.count(3), 30);
        due("pass(60)", x.pass(60), 0);
        due("week", x.count(0), 61);
        due("week of the year", x.count(1), 9);
        due("open", x.count(2), 0);
        x.pass(1);
        due("closed", x.count(2), 1);
    }

    private static void grows() {
        HedgeChains x = Calls.with(0, "p*3t8t9t1g");
        x.pass(3);
        due("not yet thicker", x.chain(0, 3, 1), 8);
        due("age", x.chain(0, 0, 2), 3);
        x.pass(1);
        due("thicker", x.chain(0, 3, 1), 9);
        due("up to 9", x.chain(0, 4, 1), 9);
        due("thin one", x.chain(0, 5, 1), 2);
        x.pass(1);
        due("age 5", x.chain(0, 0, 2), 5);
        due("planted", x.field(0, 4), 3);
        x.pass(1);
        due("stands", x.chain(0, 0, 0), 0);
        due("of the thickness 1", x.chain(0, 0, 1), 1);
        due("without an age", x.chain(0, 0, 2), 0);
        due("gap", x.chain(0, 6, 0), 2);
        x.pass(2);
        due("thicker with the others", x.chain(0, 0, 1), 2);
        Calls.readHedge(x, 1, "g");
        x.pass(2);
        x.plant(1, 0);
        x.pass(6);
        due("week", x.count(0), 16);
        due("stands from this week on", x.chain(1, 0, 0), 0);
        due("did not stand before week 16", x.chain(1, 0, 1), 1);
    }

    private static void laidGrow() {
        HedgeChains x = Calls.with(0, "l1l7l8l9t9t4gp");
        x.pass(51);
        due("l1 in week 51", x.chain(0, 0, 1), 1);
        due("l8 in week 51", x.chain(0, 2, 0), 1);
        x.pass(1);
        int[] kinds = {1, 1, 0, 0, 0, 0, 2, 0};
        int[] thicknesses = {3, 9, 9, 9, 9, 9, 0, 9};
        for (int chain = 0; chain < kinds.length; chain++) {
            due("kind of " + chain, x.chain(0, chain, 0), kinds[chain]);
            due("thickness of " + chain, x.chain(0, chain, 1), thicknesses[chain]);
        }
        x.pass(52);
        due("l1 a year later", x.chain(0, 0, 1), 5);
        due("l7 a year later", x.chain(0, 1, 0), 0);
    }

    private static void fines() {
        HedgeChains x = Calls.with(0, "t2*3p");
        due("contract(0, 0, 2, 3)", x.contract(0, 0, 2, 3), 3);
        due("contract(1, 0, 0, 1)", x.contract(1, 0, 0, 1), 10);
        due("pass(1)", x.pass(1), 10);
        due("pass(1): the last week is not over", x.pass(1), 10);
        due("pass(1)", x.pass(1), 19);
        due("purse", x.count(5), 11);
        due("no debt", x.count(6), 0);
        due("pass(3): a new standing chain counts", x.pass(3), 19 + 19 + 22);
        due("purse is empty", x.count(5), 0);
        due("debt", x.count(6), 49);
        due("fines that were due", x.count(8), 99);
        due("contracts go on", x.count(9), 2);
    }

    private static void passErrors() {
        HedgeChains x = new HedgeChains();
        for (int bad : Calls.BEYOND) {
            due("pass(bad)", x.pass(bad), Calls.INVALID);
        }
        due("pass(0)", x.pass(0), Calls.INVALID);
        due("pass(61)", x.pass(61), Calls.INVALID);
        for (int i = 0; i < 16; i++) {
            due("pass(60)", x.pass(60), 0);
        }
        due("beyond 1000", x.pass(41), Calls.FULL);
        due("INVALID ahead of it", x.pass(61), Calls.INVALID);
        due("week", x.count(0), 960);
        due("up to 1000", x.pass(40), 0);
        due("week", x.count(0), 1000);
        due("no more", x.pass(1), Calls.FULL);
        due("week of the year", x.count(1), 12);
    }

    private static void sets() {
        HedgeChains x = new HedgeChains();
        due("set(0, 51)", x.set(0, 51), 10);
        due("set(0, 0)", x.set(0, 0), 51);
        due("set(1, 51)", x.set(1, 51), 30);
        due("set(1, 0)", x.set(1, 0), 51);
        due("set(2, 100)", x.set(2, 100), 30);
        due("work is more by as much", x.count(3), 100);
        x.set(1, 0);
        x.set(0, 1);
        x.set(1, 1);
        due("lay", x.lay(0, 0, 5), 5);
        due("work", x.count(3), 80);
        due("set(2, 90)", x.set(2, 90), 100);
        due("work is less by as much", x.count(3), 70);
        due("set(2, 19)", x.set(2, 19), 90);
        due("work is at least 0", x.count(3), 0);
        due("set(2, 25)", x.set(2, 25), 19);
        due("work", x.count(3), 6);
        due("set(2, 25) again", x.set(2, 25), 25);
        due("work stays", x.count(3), 6);
        due("count(12)", x.count(12), 1);
        due("count(13)", x.count(13), 1);
        due("count(14)", x.count(14), 25);
        String before = Calls.seen(x);
        int[][] bad = {{0, 52}, {0, -1}, {1, 52}, {1, -1}, {2, 0}, {2, 101}, {3, 1}, {-1, 1}};
        for (int[] pair : bad) {
            due("set(" + pair[0] + ", " + pair[1] + ")", x.set(pair[0], pair[1]), Calls.INVALID);
        }
        for (int beyond : Calls.BEYOND) {
            due("set(beyond, 1)", x.set(beyond, 1), Calls.INVALID);
            for (int what = 0; what < 3; what++) {
                due("set(what, beyond)", x.set(what, beyond), Calls.INVALID);
            }
        }
        due("nothing has changed", Calls.seen(x).equals(before) ? 1 : 0, 1);
    }

    private static void closedWeeks() {
        int[][] bounds = {{10, 30}, {30, 10}, {0, 51}, {7, 7}, {31, 30}, {51, 0}, {0, 0}};
        for (int[] bound : bounds) {
            HedgeChains x = new HedgeChains();
            x.set(0, bound[0]);
            x.set(1, bound[1]);
            for (int week = 0; week < 110; week++) {
                int ofYear = week % 52;
                boolean closed = bound[0] <= bound[1] ? ofYear >= bound[0] && ofYear <= bound[1]
                        : ofYear >= bound[0] || ofYear <= bound[1];
                due("closed in week " + week, x.count(2), closed ? 1 : 0);
                x.pass(1);
            }
        }
    }
}
