/** The sentences on work, stakes and coins: lay, cut, plant and grub. */
public final class WorkSentencesTest {
    public static void main(String[] args) throws Exception {
        Sentences.run(WorkSentencesTest.class);
    }

    /** As much work as told is left in this week: the strength is that, and a week has begun with it. */
    private static HedgeChains withWork(int work, int field, String text) {
        HedgeChains x = Calls.with(field, text);
        x.set(2, work);
        x.pass(1);
        return x;
    }

    @Holds("In each week there is work for as much as the strength (1 to 100; at first 30).")
    static void workOfAWeek(Check check) {
        HedgeChains x = new HedgeChains();
        check.due("strength at first", x.count(14), 30);
        check.due("work at first", x.count(3), 30);
        for (int strength : new int[] {1, 2, 30, 99, 100}) {
            x.set(2, strength);
            x.pass(1);
            check.due("work of a week", x.count(3), strength);
        }
        HedgeChains least = withWork(1, 0, "t9");
        check.due("cut with 1 of the work", least.cut(0, 0), 19);
        check.due("cut with none", least.cut(0, 0), Calls.ILLEGAL);
        HedgeChains most = withWork(100, 0, "t9*20");
        for (int i = 0; i < 40; i++) {
            most.cut(0, i / 2);
        }
        check.due("work after 40 cuts", most.count(3), 60);
        check.due("chains that are laid with 60", most.lay(0, 0, 30), 12);
        check.due("work after it", most.count(3), 0);
    }

    @Holds("There is a stock of stakes (at first 10) and a purse (at first 50 coins).")
    static void stockAndPurse(Check check) {
        HedgeChains x = Calls.with(0, "t2*6g*20");
        check.due("stock", x.count(4), 10);
        check.due("purse", x.count(5), 50);
        check.due("10 stakes are enough for 5 chains", x.lay(0, 0, 30), 5);
        check.due("stock", x.count(4), 0);
        x.pass(1);
        check.due("an empty stock is for none", x.lay(0, 5, 1), Calls.ILLEGAL);
        for (int i = 0; i < 16; i++) {
            x.plant(0, 6 + i);
            x.pass(1);
        }
        check.due("50 coins are enough for 16 gaps", x.count(5), 2);
        check.due("but not for more", x.plant(0, 22), Calls.ILLEGAL);
    }

    @Holds("To cut a chain that stands, of a thickness of 3 or more")
    static void whatCanBeCut(Check check) {
        for (int thickness = 1; thickness <= 9; thickness++) {
            int due = thickness >= 3 ? 10 + thickness : Calls.ILLEGAL;
            check.due("cut of t" + thickness, Calls.with(0, "t" + thickness).cut(0, 0), due);
            check.due("cut of l" + thickness, Calls.with(0, "l" + thickness).cut(0, 0), Calls.ILLEGAL);
        }
        check.due("cut of a gap", Calls.with(0, "g").cut(0, 0), Calls.ILLEGAL);
        check.due("cut of a planted one", Calls.with(0, "p").cut(0, 0), Calls.ILLEGAL);
    }

    @Holds("the stock grows by its thickness as it was, it becomes thinner by 2, and this takes 1 of the work.")
    static void whatACutDoes(Check check) {
        for (int thickness = 3; thickness <= 9; thickness++) {
            HedgeChains x = Calls.with(0, "t8t" + thickness + "t8");
            check.due("cut", x.cut(0, 1), 10 + thickness);
            check.due("stock", x.count(4), 10 + thickness);
            check.due("thickness", x.chain(0, 1, 1), thickness - 2);
            check.due("it stands", x.chain(0, 1, 0), 0);
            check.due("work", x.count(3), 29);
            check.due("the one before it", x.chain(0, 0, 1), 8);
            check.due("the one behind it", x.chain(0, 2, 1), 8);
        }
        HedgeChains often = Calls.with(0, "t9");
        int[] stocks = {19, 26, 31, 34, Calls.ILLEGAL};
        for (int stock : stocks) {
            check.due("cut as often as can be", often.cut(0, 0), stock);
        }
        check.due("work", often.count(3), 26);
    }

    @Holds("Returns the stakes in the stock then; INVALID_ARGUMENT if there is no such field or chain; ILLEGAL_STATE if the week"
            + " is closed, the chain does not stand or is thinner than 3, or there is no work left.")
    static void whatCutAnswers(Check check) {
        HedgeChains x = withWork(1, 0, "t3t2l3gp");
        check.due("cut of t2", x.cut(0, 1), Calls.ILLEGAL);
        check.due("cut of l3", x.cut(0, 2), Calls.ILLEGAL);
        check.due("cut of g", x.cut(0, 3), Calls.ILLEGAL);
        check.due("cut of p", x.cut(0, 4), Calls.ILLEGAL);
        check.due("cut of t3 with 1 of the work", x.cut(0, 0), 13);
        check.due("cut of t4 with no work", x.cut(1, 0), Calls.ILLEGAL);
        check.due("cut of a chain that is not there", x.cut(0, 5), Calls.INVALID);
        check.due("cut in a field that is not there", x.cut(6, 0), Calls.INVALID);
        for (int far : Calls.BEYOND) {
            check.due("cut(" + far + ", 0)", x.cut(far, 0), Calls.INVALID);
            check.due("cut(0, " + far + ")", x.cut(0, far), Calls.INVALID);
        }
        x.pass(1);
        check.due("cut with the work of the next week", x.cut(1, 0), 17);
        x.pass(8);
        check.due("cut in a closed week", x.cut(1, 1), Calls.ILLEGAL);
    }

    @Holds("To lay a chain that stands, of a thickness of 2 or more")
    static void whatCanBeLaid(Check check) {
        for (int thickness = 1; thickness <= 9; thickness++) {
            int due = thickness >= 2 ? 1 : Calls.ILLEGAL;
            check.due("lay of t" + thickness, Calls.with(0, "t" + thickness).lay(0, 0, 1), due);
            check.due("lay of l" + thickness, Calls.with(0, "l" + thickness).lay(0, 0, 1), Calls.ILLEGAL);
        }
        check.due("lay of a gap", Calls.with(0, "g").lay(0, 0, 1), Calls.ILLEGAL);
        check.due("lay of a planted one", Calls.with(0, "p").lay(0, 0, 1), Calls.ILLEGAL);
    }

    @Holds("takes as much of the work as its thickness, and 2 stakes.")
    static void whatItTakesToLay(Check check) {
        for (int thickness = 2; thickness <= 9; thickness++) {
            HedgeChains x = Calls.with(0, "t" + thickness);
            x.lay(0, 0, 1);
            check.due("work", x.count(3), 30 - thickness);
            check.due("stakes", x.count(4), 8);
            HedgeChains just = withWork(thickness, 0, "t" + thickness);
            check.due("with just its thickness of the work", just.lay(0, 0, 1), 1);
            check.due("work", just.count(3), 0);
            HedgeChains less = withWork(thickness - 1, 0, "t" + thickness);
            check.due("with 1 less", less.lay(0, 0, 1), Calls.ILLEGAL);
        }
        HedgeChains two = new HedgeChains();
        two.lay(0, 0, 4);
        check.due("with 2 stakes", two.lay(0, 4, 1), 1);
        check.due("stakes", two.count(4), 0);
        check.due("with none", two.lay(0, 5, 1), Calls.ILLEGAL);
        two.cut(0, 5);
        two.pass(1);
        check.due("with 4", two.lay(0, 6, 1), 1);
        HedgeChains one = Calls.with(0, "t3t2*9");
        one.cut(0, 0);
        one.lay(0, 1, 6);
        check.due("1 stake", one.count(4), 1);
        check.due("with 1", one.lay(0, 7, 1), Calls.ILLEGAL);
    }

    @Holds("Then it is laid (its thickness stays)")
    static void whatIsLaid(Check check) {
        for (int thickness = 2; thickness <= 9; thickness++) {
            HedgeChains x = Calls.with(0, "t5t" + thickness + "t5");
            x.lay(0, 1, 1);
            check.due("kind", x.chain(0, 1, 0), 1);
            check.due("thickness", x.chain(0, 1, 1), thickness);
            check.due("the one before it", x.chain(0, 0, 0), 0);
            check.due("the one behind it", x.chain(0, 2, 0), 0);
        }
    }

    @Holds("if the field has a contract, its price comes into the purse (for the last one that stands, too).")
    static void priceOfALaidChain(Check check) {
        for (int price : new int[] {0, 1, 20}) {
            HedgeChains x = Calls.with(2, "t2t1t3l4t2");
            x.contract(2, price, 5, 0);
            x.lay(2, 0, 1);
            check.due("purse after one", x.count(5), 50 + price);
            x.lay(1, 0, 1);
            check.due("purse after one of another field", x.count(5), 50 + price);
            x.lay(2, 2, 1);
            x.lay(2, 4, 1);
            check.due("purse after three", x.count(5), 50 + 3 * price);
            check.due("one stands", x.field(2, 7), 1);
            x.grub(2, 1);
            check.due("purse after a chain that is grubbed out", x.count(5), 50 + 3 * price);
            check.due("it has ended", x.field(2, 7), 0);
        }
        HedgeChains last = Calls.with(2, "t2*3");
        last.contract(2, 20, 0, 9);
        check.due("lay all at once", last.lay(2, 0, 3), 3);
        check.due("purse after the last one, too", last.count(5), 110);
        check.due("coins that came", last.count(7), 60);
        HedgeChains without = new HedgeChains();
        without.contract(0, 20, 0, 0);
        without.giveBack(0);
        without.lay(0, 0, 2);
        check.due("purse without a contract", without.count(5), 50);
    }

    @Holds("Lays chains of a field, one behind another, as many as told at most, up to the first one that cannot be laid (as it"
            + " does not stand, is too thin, or work or stakes do not do for it).")
    static void upToTheFirstThatCannotBeLaid(Check check) {
        String[] texts = {"t3*2l3t3", "t3*2gt3", "t3*2pt3", "t3*2t1t3", "t9*3t4t3", "t2*5t2*3", "t3t2", "t3*4"};
        int[] due = {2, 2, 2, 2, 3, 5, 2, 4};
        for (int i = 0; i < texts.length; i++) {
            HedgeChains x = Calls.with(5, texts[i]);
            int laid = x.field(5, 2);
            check.due("lay(5, 0, 30) of " + texts[i], x.lay(5, 0, 30), due[i]);
            check.due("laid ones", x.field(5, 2), laid + due[i]);
            check.due("the last of them", x.chain(5, due[i] - 1, 0), 1);
        }
        for (int many = 1; many <= 5; many++) {
            HedgeChains x = new HedgeChains();
            check.due("as many as told at most", x.lay(5, 2, many), many);
            check.due("laid ones", x.field(5, 2), many);
            check.due("the one before them", x.chain(5, 1, 0), 0);
            check.due("the first of them", x.chain(5, 2, 0), 1);
            check.due("the one behind them", x.chain(5, 2 + many, 0), 0);
        }
        HedgeChains last = new HedgeChains();
        check.due("the last chain of the hedge", last.lay(5, 9, 30), 1);
        check.due("the first of the next field", last.chain(5, 0, 0), 0);
    }

    @Holds("`many`: 1 to 30")
    static void oneToThirtyAtOnce(Check check) {
        for (int many : new int[] {1, 2, 29, 30}) {
            check.due("lay(0, 0, " + many + ")", thirtyToLay().lay(0, 0, many), many);
        }
        for (int many : new int[] {0, -1, 31, 32}) {
            check.due("lay(0, 0, " + many + ")", thirtyToLay().lay(0, 0, many), Calls.INVALID);
        }
        for (int many : Calls.BEYOND) {
            check.due("lay(0, 0, " + many + ")", thirtyToLay().lay(0, 0, many), Calls.INVALID);
        }
    }

    /** Work and stakes do for all 30 of its chains. */
    private static HedgeChains thirtyToLay() {
        HedgeChains x = Calls.with(0, "t2*30");
        Calls.readHedge(x, 1, "t9*6");
        x.set(2, 100);
        for (int chain = 0; chain < 6; chain++) {
            x.cut(1, chain);
        }
        return x;
    }

    @Holds("Returns the number of chains that are laid; INVALID_ARGUMENT if an argument is out of range, or there is no such"
            + " chain; ILLEGAL_STATE if the week is closed, or the first one cannot be laid.")
    static void whatLayAnswers(Check check) {
        HedgeChains x = Calls.with(0, "t2t1l2gp");
        for (int chain = 1; chain < 5; chain++) {
            check.due("lay(0, " + chain + ", 1)", x.lay(0, chain, 1), Calls.ILLEGAL);
        }
        check.due("lay(0, 5, 1)", x.lay(0, 5, 1), Calls.INVALID);
        check.due("lay(0, 0, 30)", x.lay(0, 0, 30), 1);
        check.due("a laid one is not laid again", x.lay(0, 0, 1), Calls.ILLEGAL);
        for (int far : Calls.BEYOND) {
            check.due("lay(" + far + ", 0, 1)", x.lay(far, 0, 1), Calls.INVALID);
            check.due("lay(1, " + far + ", 1)", x.lay(1, far, 1), Calls.INVALID);
        }
        x.pass(9);
        check.due("in an open week", x.lay(1, 0, 1), 1);
        x.pass(1);
        check.due("in a closed one", x.lay(1, 1, 1), Calls.ILLEGAL);
    }

    @Holds("To plant a gap takes 2 of the work and 3 coins; it is planted then, of the age 0.")
    static void whatItTakesToPlant(Check check) {
        HedgeChains x = Calls.with(0, "g*3");
        check.due("plant(0, 1)", x.plant(0, 1), 28);
        check.due("work", x.count(3), 28);
        check.due("purse", x.count(5), 47);
        check.due("stakes", x.count(4), 10);
        check.due("kind", x.chain(0, 1, 0), 3);
        check.due("age", x.chain(0, 1, 2), 0);
        check.due("the one before it", x.chain(0, 0, 0), 2);
        check.due("the one behind it", x.chain(0, 2, 0), 2);
    }

    @Holds("Returns the work that is left; INVALID_ARGUMENT if there is no such field or chain; ILLEGAL_STATE if it is no gap,")
    static void onlyAGapIsPlanted(Check check) {
        HedgeChains x = Calls.with(0, "t1t9l1l9pg");
        for (int chain = 0; chain < 5; chain++) {
            check.due("plant(0, " + chain + ")", x.plant(0, chain), Calls.ILLEGAL);
        }
        check.due("plant(0, 5)", x.plant(0, 5), 28);
        check.due("plant(0, 5) again", x.plant(0, 5), Calls.ILLEGAL);
        check.due("plant(0, 6)", x.plant(0, 6), Calls.INVALID);
        check.due("plant(6, 5)", x.plant(6, 5), Calls.INVALID);
        for (int far : Calls.BEYOND) {
            check.due("plant(" + far + ", 5)", x.plant(far, 5), Calls.INVALID);
            check.due("plant(0, " + far + ")", x.plant(0, far), Calls.INVALID);
        }
    }

    @Holds("the work is less than 2, or")
    static void plantingNeedsTwoOfTheWork(Check check) {
        check.due("with 2", withWork(2, 0, "g").plant(0, 0), 0);
        check.due("with 3", withWork(3, 0, "g").plant(0, 0), 1);
        check.due("with 1", withWork(1, 0, "g").plant(0, 0), Calls.ILLEGAL);
        HedgeChains none = withWork(2, 0, "g*2");
        none.plant(0, 0);
        check.due("with none", none.plant(0, 1), Calls.ILLEGAL);
    }

    @Holds("the purse has fewer than 3 coins.")
    static void plantingNeedsThreeCoins(Check check) {
        for (int purse = 0; purse <= 5; purse++) {
            HedgeChains x = withPurse(purse);
            check.due("purse", x.count(5), purse);
            check.due("plant with " + purse + " coins", x.plant(0, 0), purse >= 3 ? 22 : Calls.ILLEGAL);
            check.due("purse then", x.count(5), purse >= 3 ? purse - 3 : purse);
        }
    }

    /** 45 coins go for a contract that is given back, and 5 more; then the price of a chain comes in. 24 of the work are left. */
    private static HedgeChains withPurse(int purse) {
        HedgeChains x = Calls.with(0, "g");
        Calls.readHedge(x, 1, "t6t1");
        x.contract(2, 0, 0, 9);
        x.giveBack(2);
        x.contract(2, 0, 0, 1);
        x.giveBack(2);
        x.contract(1, purse, 0, 0);
        x.lay(1, 0, 1);
        return x;
    }

    @Holds("Nothing can be cut or laid in a closed week; planting is possible.")
    static void inAClosedWeek(Check check) {
        int[][] weeks = {{9, 1, 14, 21}, {10, -2, -2, 28}, {11, -2, -2, 28}, {29, -2, -2, 28}, {30, -2, -2, 28}, {31, 1, 17, 18}};
        for (int[] due : weeks) {
            HedgeChains x = Calls.with(0, "g*2");
            x.pass(due[0]);
            check.due("lay in week " + due[0], x.lay(1, 0, 1), due[1]);
            check.due("cut in week " + due[0], x.cut(1, 1), due[2]);
            check.due("plant in week " + due[0], x.plant(0, 0), due[3]);
            check.due("grub in week " + due[0], x.grub(1, 2), 0);
        }
        HedgeChains always = Calls.with(0, "g");
        always.set(0, 0);
        always.set(1, 51);
        check.due("lay", always.lay(1, 0, 1), Calls.ILLEGAL);
        check.due("cut", always.cut(1, 0), Calls.ILLEGAL);
        check.due("plant", always.plant(0, 0), 28);
    }

    @Holds("it is a gap then. This is an action, for which no work is needed.")
    static void grubbingTakesNoWork(Check check) {
        HedgeChains x = withWork(1, 0, "t5t9l9p");
        x.cut(0, 0);
        check.due("no work is left", x.count(3), 0);
        for (int chain = 1; chain < 4; chain++) {
            x.grub(0, chain);
            check.due("kind", x.chain(0, chain, 0), 2);
            check.due("thickness", x.chain(0, chain, 1), 0);
            check.due("age", x.chain(0, chain, 2), 0);
        }
        check.due("the others are as before", x.chain(0, 0, 0), 0);
        check.due("work", x.count(3), 0);
        check.due("stakes", x.count(4), 15);
        check.due("purse", x.count(5), 50);
        HedgeChains rested = new HedgeChains();
        rested.grub(0, 0);
        check.due("all the work is there yet", rested.count(3), 30);
    }

    @Holds("Returns what it was (0, 1 or 3); INVALID_ARGUMENT if there is no such field or chain;")
    static void whatWasGrubbedOut(Check check) {
        HedgeChains x = Calls.with(0, "t1t9l1l9p");
        int[] due = {0, 0, 1, 1, 3};
        for (int chain = 0; chain < due.length; chain++) {
            check.due("grub(0, " + chain + ")", x.grub(0, chain), due[chain]);
        }
        check.due("grub(0, 5)", x.grub(0, 5), Calls.INVALID);
        check.due("grub(6, 0)", x.grub(6, 0), Calls.INVALID);
        for (int far : Calls.BEYOND) {
            check.due("grub(" + far + ", 0)", x.grub(far, 0), Calls.INVALID);
            check.due("grub(0, " + far + ")", x.grub(0, far), Calls.INVALID);
        }
    }

    @Holds("ILLEGAL_STATE if it is a gap.")
    static void aGapIsNotGrubbedOut(Check check) {
        HedgeChains x = Calls.with(0, "gt4");
        check.due("grub(0, 0)", x.grub(0, 0), Calls.ILLEGAL);
        check.due("grub(0, 1)", x.grub(0, 1), 0);
        check.due("grub(0, 1) again", x.grub(0, 1), Calls.ILLEGAL);
        x.plant(0, 0);
        check.due("grub(0, 0) of what is planted", x.grub(0, 0), 3);
        check.due("grub(0, 0) again", x.grub(0, 0), Calls.ILLEGAL);
    }
}
