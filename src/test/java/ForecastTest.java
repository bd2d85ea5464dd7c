/** Promises 20 to 23: toLay, stakesIn, doneIn, bestOrder. */
public final class ForecastTest {
    private static final Check CHECK = new Check("ForecastTest");

    public static void main(String[] args) {
        laysAll();
        stakes();
        done();
        doneFar();
        noOrder();
        orders();
        orderTies();
        orderReckons();
        CHECK.end();
    }

    private static void due(String call, long got, long want) {
        CHECK.due(call, got, want);
    }

    private static void laysAll() {
        HedgeChains x = Calls.with(0, "t1t2t9*3l5gpt3");
        due("work", x.toLay(0, 0), 32);
        due("stakes", x.toLay(0, 1), 10);
        due("no work", Calls.with(0, "t1*5l9").toLay(0, 0), 0);
        due("no stakes", Calls.with(0, "t1*5l9").toLay(0, 1), 0);
        due("most work", Calls.with(0, "t9*30").toLay(0, 0), 270);
        due("most stakes", Calls.with(0, "t9*30").toLay(0, 1), 60);
        due("toLay(0, 2)", x.toLay(0, 2), Calls.INVALID);
        due("toLay(6, 0)", x.toLay(6, 0), Calls.INVALID);
        for (int bad : Calls.BEYOND) {
            due("toLay(bad, 0)", x.toLay(bad, 0), Calls.INVALID);
            due("toLay(0, bad)", x.toLay(0, bad), Calls.INVALID);
        }
    }

    private static void stakes() {
        int[] due = {0, 0, 3, 4, 8, 10, 15, 18, 24};
        for (int thickness = 1; thickness <= 9; thickness++) {
            due("of a chain that stands", Calls.with(0, "t" + thickness).stakesIn(0), due[thickness - 1]);
            due("of a laid one", Calls.with(0, "l" + thickness).stakesIn(0), 0);
        }
        HedgeChains x = Calls.with(4, "t9*2t2gpt4");
        due("stakesIn(4)", x.stakesIn(4), 52);
        x.set(2, 1);
        x.pass(10);
        due("work and closed weeks are of no matter", x.stakesIn(4) > 52 ? 1 : 0, 1);
        due("stakesIn(6)", x.stakesIn(6), Calls.INVALID);
        for (int bad : Calls.BEYOND) {
            due("stakesIn(bad)", x.stakesIn(bad), Calls.INVALID);
        }
    }

    private static void done() {
        due("none", Calls.with(0, "t1l9gp").doneIn(0), 0);
        due("all in this week", Calls.with(0, "t9*3t3").doneIn(0), 0);
        due("one chain more", Calls.with(0, "t9*3t4").doneIn(0), 1);
        due("the rest of the work is lost", Calls.with(0, "t9*3t4t9*3t4").doneIn(0), 2);
        due("all in two weeks", Calls.with(0, "t9*6t3").doneIn(0), 1);
        due("a little more", Calls.with(0, "t9*6t4").doneIn(0), 2);
        due("in their order", Calls.with(0, "t9*3t5t9*2t3t4").doneIn(0), 1);
        HedgeChains x = Calls.with(0, "t9*3");
        x.cut(1, 0);
        due("27 of 29", x.doneIn(0), 0);
        x.cut(1, 1);
        x.cut(1, 2);
        due("27 of 27", x.doneIn(0), 0);
        x.cut(1, 3);
        due("27 of 26", x.doneIn(0), 1);
        x.pass(9);
        due("the last open week", x.doneIn(0), 0);
        x.cut(1, 5);
        x.cut(1, 6);
        x.cut(1, 7);
        x.cut(1, 8);
        due("behind the closed weeks", x.doneIn(0), 22);
        x.pass(1);
        due("in a closed week", x.doneIn(0), 21);
        due("none in a closed week", readIn(x, 3, "gp").doneIn(3), 0);
        x.set(2, 8);
        due("thicker than the strength", x.doneIn(0), Calls.NONE);
        x.set(2, 9);
        due("as thick as the strength", x.doneIn(0), 23);
        x.set(0, 0);
        x.set(1, 51);
        due("all weeks are closed", x.doneIn(0), Calls.NONE);
        due("there is none, and all weeks are closed", x.doneIn(3), 0);
        due("doneIn(6)", x.doneIn(6), Calls.INVALID);
        for (int bad : Calls.BEYOND) {
            due("doneIn(bad)", x.doneIn(bad), Calls.INVALID);
        }
        HedgeChains poor = Calls.with(0, "t2*9");
        due("stakes are of no matter", poor.doneIn(0), 0);
        poor.lay(0, 0, 5);
        due("stakes are of no matter", poor.doneIn(0), 0);
    }

    private static HedgeChains readIn(HedgeChains x, int field, String text) {
        Calls.readHedge(x, field, text);
        return x;
    }

    /** One open week in a year: the fourth from now on is 44 + 3 * 52 = 200 weeks away. */
    private static void doneFar() {
        HedgeChains x = Calls.with(0, "t9*4");
        Calls.readHedge(x, 1, "t9*5");
        Calls.readHedge(x, 2, "t9");
        x.set(2, 9);
        x.set(0, 45);
        x.set(1, 43);
        due("200 weeks", x.doneIn(0), 200);
        due("beyond", x.doneIn(1), Calls.NONE);
        due("one", x.doneIn(2), 44);
        x.set(0, 46);
        x.set(1, 44);
        due("201 weeks", x.doneIn(0), Calls.NONE);
        HedgeChains late = Calls.with(0, "t9*4");
        for (int i = 0; i < 20; i++) {
            late.pass(50);
        }
        due("week", late.count(0), 1000);
        due("beyond week 1000", late.doneIn(0), 20);
    }

    private static void noOrder() {
        HedgeChains x = new HedgeChains();
        due("bestOrder(0)", x.bestOrder(0), Calls.NONE);
        due("bestOrder(1)", x.bestOrder(1), Calls.NONE);
        due("bestOrder(2)", x.bestOrder(2), Calls.INVALID);
        for (int bad : Calls.BEYOND) {
            due("bestOrder(bad)", x.bestOrder(bad), Calls.INVALID);
        }
        x.contract(4, 1, 1, 1);
        due("bestOrder(0)", x.bestOrder(0), 10);
        due("bestOrder(1)", x.bestOrder(1), 4);
        due("bestOrder(2)", x.bestOrder(2), Calls.INVALID);
        due("it changes nothing", x.count(16), 1);
    }

    private static void orders() {
        HedgeChains x = Calls.with(0, "t9*20");
        Calls.readHedge(x, 1, "t9*10");
        Calls.readHedge(x, 2, "t9*5t1*5");
        x.contract(0, 0, 6, 1);
        x.contract(1, 0, 3, 2);
        x.contract(2, 0, 2, 9);
        // 6, 3 and 2 weeks: 2, 1, 0 is done in 2, 5, 11: 2 * 10 * 2 + 5 * 20 * 1.
        due("least sum", x.bestOrder(0), 140);
        due("first field", x.bestOrder(1), 2);
        x.set(2, 100);
        // 2, 1 and 1 weeks: in 1, 2, 0 and 2, 1, 0 none is late, but field 2 is if 0 is first.
        due("least sum", x.bestOrder(0), 0);
        due("first field", x.bestOrder(1), 1);
        x.pass(3);
        // As above, from week 3 on: 2, 1, 0 is done in 4, 5, 7.
        due("least sum", x.bestOrder(0), 9 * 10 * 2 + 2 * 10 * 2 + 20);
        due("first field", x.bestOrder(1), 2);
    }

    private static void orderTies() {
        HedgeChains x = new HedgeChains();
        for (int field = 5; field >= 1; field--) {
            x.contract(field, 0, 0, 0);
        }
        due("no fines", x.bestOrder(0), 0);
        due("the smallest field", x.bestOrder(1), 1);
        x.contract(0, 0, 0, 0);
        due("field 0", x.bestOrder(1), 0);
        x.giveBack(0);
        x.grub(1, 0);
        Calls.readHedge(x, 1, "l1");
        due("a contract that has ended is of no matter", x.bestOrder(1), 2);
        HedgeChains same = new HedgeChains();
        same.contract(5, 0, 2, 3);
        same.contract(2, 0, 2, 3);
        due("least sum", same.bestOrder(0), 60);
        due("the smaller of two", same.bestOrder(1), 2);
        HedgeChains all = new HedgeChains();
        for (int field = 0; field < 6; field++) {
            all.contract(field, 0, 0, field + 3);
        }
        // Two weeks each, the dearest first.
        due("least sum", all.bestOrder(0), 10 * (8 * 2 + 7 * 4 + 6 * 6 + 5 * 8 + 4 * 10 + 3 * 12));
        due("the dearest first", all.bestOrder(1), 5);
    }

    private static void orderReckons() {
        HedgeChains thin = Calls.with(0, "t1*10");
        thin.contract(0, 0, 0, 5);
        due("a field without work takes no week", thin.bestOrder(0), 0);
        thin.pass(2);
        due("it is late all the same", thin.bestOrder(0), 100);
        HedgeChains closed = new HedgeChains();
        closed.set(0, 0);
        closed.set(1, 51);
        closed.contract(3, 0, 0, 1);
        due("closed weeks are of no matter", closed.bestOrder(0), 20);
        HedgeChains strength = Calls.with(0, "t5*6");
        strength.contract(0, 0, 0, 1);
        due("just one week", strength.bestOrder(0), 6);
        strength.set(2, 29);
        due("rounded up", strength.bestOrder(0), 12);
        strength.set(2, 1);
        due("one a week", strength.bestOrder(0), 180);
        strength.set(2, 100);
        strength.lay(0, 0, 2);
        due("those that stand now", strength.bestOrder(0), 4);
    }
}
