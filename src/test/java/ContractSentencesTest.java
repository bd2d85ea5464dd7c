/** The sentences on contracts and coins: contract, giveBack and payDebt. */
public final class ContractSentencesTest {
    public static void main(String[] args) throws Exception {
        Sentences.run(ContractSentencesTest.class);
    }

    @Holds("A field can have a contract: a price for each chain (0 to 20), a last week, and a fine (0 to 9).")
    static void aContract(Check check) {
        HedgeChains x = new HedgeChains();
        x.contract(4, 20, 100, 9);
        check.due("price", x.field(4, 8), 20);
        check.due("last week", x.field(4, 9), 100);
        check.due("fine", x.field(4, 10), 9);
        x.contract(3, 0, 0, 0);
        check.due("price", x.field(3, 8), 0);
        check.due("last week", x.field(3, 9), 0);
        check.due("fine", x.field(3, 10), 0);
        x.lay(4, 0, 2);
        x.lay(3, 0, 2);
        check.due("a price for each chain", x.count(5), 90);
    }

    @Holds("`price`: 0 to 20")
    static void prices(Check check) {
        for (int price : new int[] {0, 1, 19, 20}) {
            HedgeChains x = new HedgeChains();
            check.due("contract(0, " + price + ", 0, 0)", x.contract(0, price, 0, 0), 10);
            check.due("price", x.field(0, 8), price);
        }
        HedgeChains x = new HedgeChains();
        check.due("contract(0, -1, 0, 0)", x.contract(0, -1, 0, 0), Calls.INVALID);
        check.due("contract(0, 21, 0, 0)", x.contract(0, 21, 0, 0), Calls.INVALID);
        for (int price : Calls.BEYOND) {
            check.due("contract(0, " + price + ", 0, 0)", x.contract(0, price, 0, 0), Calls.INVALID);
        }
    }

    @Holds("`weeks`: 0 to 100: the last week is the present one plus this number")
    static void lastWeeks(Check check) {
        for (int present : new int[] {0, 1, 60, 1000}) {
            for (int weeks : new int[] {0, 1, 99, 100}) {
                HedgeChains x = new HedgeChains();
                Calls.weeks(x, present);
                check.due("contract(0, 0, " + weeks + ", 0)", x.contract(0, 0, weeks, 0), 10);
                check.due("last week", x.field(0, 9), present + weeks);
            }
        }
        HedgeChains x = new HedgeChains();
        check.due("contract(0, 0, -1, 0)", x.contract(0, 0, -1, 0), Calls.INVALID);
        check.due("contract(0, 0, 101, 0)", x.contract(0, 0, 101, 0), Calls.INVALID);
        for (int weeks : Calls.BEYOND) {
            check.due("contract(0, 0, " + weeks + ", 0)", x.contract(0, 0, weeks, 0), Calls.INVALID);
        }
        x.contract(0, 0, 3, 0);
        x.pass(2);
        check.due("it stays as it is", x.field(0, 9), 3);
    }

    @Holds("`fine`: 0 to 9")
    static void fines(Check check) {
        for (int fine : new int[] {0, 1, 8, 9}) {
            HedgeChains x = new HedgeChains();
            check.due("contract(0, 0, 0, " + fine + ")", x.contract(0, 0, 0, fine), 10);
            check.due("fine", x.field(0, 10), fine);
        }
        HedgeChains x = new HedgeChains();
        check.due("contract(0, 0, 0, -1)", x.contract(0, 0, 0, -1), Calls.INVALID);
        check.due("contract(0, 0, 0, 10)", x.contract(0, 0, 0, 10), Calls.INVALID);
        for (int fine : Calls.BEYOND) {
            check.due("contract(0, 0, 0, " + fine + ")", x.contract(0, 0, 0, fine), Calls.INVALID);
        }
    }

    @Holds("Returns the number of chains that stand; INVALID_ARGUMENT if an argument is out of range; ILLEGAL_STATE if the field has"
            + " a contract, or no chain of its hedge stands.")
    static void whatContractAnswers(Check check) {
        String[] texts = {"t1", "t9*30", "t1l4*3gp", "gt2gt3", "l4", "g", "p", "l9*10g*10p*10"};
        int[] due = {1, 30, 1, 2, -2, -2, -2, -2};
        for (int i = 0; i < texts.length; i++) {
            HedgeChains x = Calls.with(5, texts[i]);
            check.due("contract(5, 1, 2, 3) of " + texts[i], x.contract(5, 1, 2, 3), due[i]);
            check.due("a second one", x.contract(5, 1, 2, 3), Calls.ILLEGAL);
            check.due("one of another field", x.contract(0, 1, 2, 3), 10);
        }
        HedgeChains again = new HedgeChains();
        again.contract(0, 1, 2, 3);
        again.giveBack(0);
        check.due("a new one after it was given back", again.contract(0, 1, 2, 3), 10);
    }

    @Holds("It ends as soon as no chain of the hedge stands")
    static void itEnds(Check check) {
        HedgeChains laid = Calls.with(0, "t2t3l4");
        laid.contract(0, 5, 0, 9);
        laid.lay(0, 0, 1);
        check.due("one stands", laid.field(0, 7), 1);
        laid.lay(0, 1, 1);
        ended(check, laid, "the last one is laid");
        HedgeChains grubbed = Calls.with(0, "t1l4t1g");
        grubbed.contract(0, 5, 0, 9);
        grubbed.grub(0, 1);
        check.due("a laid one is grubbed out", grubbed.field(0, 7), 1);
        grubbed.grub(0, 0);
        check.due("one stands", grubbed.field(0, 7), 1);
        grubbed.grub(0, 2);
        ended(check, grubbed, "the last one is grubbed out");
        HedgeChains cut = Calls.with(0, "t3");
        cut.contract(0, 5, 0, 9);
        cut.cut(0, 0);
        check.due("a thin one stands", cut.field(0, 7), 1);
        check.due("its fine", cut.pass(1), 9);
        HedgeChains stands = Calls.with(0, "t2p");
        stands.contract(0, 5, 0, 9);
        stands.lay(0, 0, 1);
        stands.pass(6);
        check.due("one stands again", stands.field(0, 1), 1);
        ended(check, stands, "it does not come back");
        HedgeChains other = Calls.with(0, "t2");
        other.contract(0, 5, 0, 9);
        other.contract(1, 5, 0, 1);
        other.lay(0, 0, 1);
        check.due("that of another field goes on", other.field(1, 7), 1);
    }

    private static void ended(Check check, HedgeChains x, String how) {
        check.due(how + ": field(0, 7)", x.field(0, 7), 0);
        check.due(how + ": count(9)", x.count(9), 0);
        for (int what = 8; what <= 10; what++) {
            check.due(how + ": field(0, " + what + ")", x.field(0, what), Calls.NONE);
        }
        check.due(how + ": giveBack(0)", x.giveBack(0), Calls.ILLEGAL);
        check.due(how + ": bestOrder(0)", x.bestOrder(0), Calls.NONE);
        check.due(how + ": pass(1)", x.pass(1), 0);
    }

    @Holds("(a hedge that is read may be so, too)")
    static void itEndsByAHedgeThatIsRead(Check check) {
        for (String text : new String[] {"l1", "g", "p", "l9*10g*10p*10"}) {
            HedgeChains x = new HedgeChains();
            x.contract(0, 1, 0, 9);
            Calls.readHedge(x, 0, text);
            ended(check, x, "read " + text);
        }
        for (String text : new String[] {"t1", "l9*29t1", "gt1p"}) {
            HedgeChains x = new HedgeChains();
            x.contract(0, 1, 2, 3);
            Calls.readHedge(x, 0, text);
            check.due("read " + text, x.field(0, 7), 1);
            check.due("price", x.field(0, 8), 1);
            check.due("last week", x.field(0, 9), 2);
            check.due("fine", x.field(0, 10), 3);
        }
        HedgeChains refused = Calls.typed(new HedgeChains(), "g*31");
        refused.contract(0, 1, 2, 3);
        refused.read(0);
        check.due("a text with a fault ends nothing", refused.field(0, 7), 1);
    }

    @Holds("or when it is given back, which costs 5 times the fine, but is no fine")
    static void givenBack(Check check) {
        for (int fine : new int[] {0, 1, 8, 9}) {
            HedgeChains x = new HedgeChains();
            x.contract(0, 1, 0, fine);
            check.due("giveBack(0)", x.giveBack(0), 5 * fine);
            check.due("purse", x.count(5), 50 - 5 * fine);
            check.due("fines that were due", x.count(8), 0);
            check.due("coins that came", x.count(7), 0);
            ended(check, x, "given back");
        }
        HedgeChains late = new HedgeChains();
        late.contract(0, 1, 0, 2);
        late.pass(1);
        check.due("giveBack(0) behind the last week", late.giveBack(0), 10);
        check.due("fines that were due", late.count(8), 20);
        late.pass(1);
        check.due("no more fines", late.count(8), 20);
    }

    @Holds("(of the purse, the rest being a debt).")
    static void givenBackForADebt(Check check) {
        HedgeChains x = new HedgeChains();
        int[] fines = {9, 1, 0, 1, 9, 2};
        int[] purse = {5, 0, 0, 0, 0, 0};
        int[] debt = {0, 0, 0, 5, 50, 60};
        for (int field = 0; field < 6; field++) {
            x.contract(field, 0, 50, fines[field]);
            check.due("giveBack", x.giveBack(field), 5 * fines[field]);
            check.due("purse", x.count(5), purse[field]);
            check.due("debt", x.count(6), debt[field]);
        }
        HedgeChains part = new HedgeChains();
        part.contract(0, 0, 0, 9);
        part.contract(1, 0, 0, 7);
        part.giveBack(0);
        check.due("giveBack(1)", part.giveBack(1), 35);
        check.due("5 of the purse", part.count(5), 0);
        check.due("the rest", part.count(6), 30);
    }

    @Holds("Returns what it costs; INVALID_ARGUMENT if field is out of range; ILLEGAL_STATE if the field has no contract.")
    static void whatGiveBackAnswers(Check check) {
        HedgeChains x = new HedgeChains();
        check.due("giveBack(3)", x.giveBack(3), Calls.ILLEGAL);
        x.contract(3, 1, 1, 6);
        check.due("giveBack(2)", x.giveBack(2), Calls.ILLEGAL);
        check.due("giveBack(3)", x.giveBack(3), 30);
        check.due("giveBack(3) again", x.giveBack(3), Calls.ILLEGAL);
        check.due("giveBack(-1)", x.giveBack(-1), Calls.INVALID);
        check.due("giveBack(6)", x.giveBack(6), Calls.INVALID);
        for (int field : Calls.BEYOND) {
            check.due("giveBack(" + field + ")", x.giveBack(field), Calls.INVALID);
        }
    }

    /** A debt of 10 and an empty purse, into which the price of a chain of field 1 comes. */
    private static HedgeChains withDebtAndPurse(int price) {
        HedgeChains x = new HedgeChains();
        x.contract(0, 0, 0, 6);
        x.pass(1);
        Calls.readHedge(x, 0, "g");
        x.contract(1, price, 50, 0);
        x.lay(1, 0, 1);
        return x;
    }

    @Holds("Pays the debt out of the purse, as far as it goes.")
    static void paysAsFarAsItGoes(Check check) {
        for (int price : new int[] {1, 2, 9, 10, 11, 20}) {
            HedgeChains x = withDebtAndPurse(price);
            check.due("debt", x.count(6), 10);
            check.due("purse", x.count(5), price);
            check.due("payDebt()", x.payDebt(), Math.min(price, 10));
            check.due("debt then", x.count(6), Math.max(10 - price, 0));
            check.due("purse then", x.count(5), Math.max(price - 10, 0));
            check.due("it is no fine", x.count(8), 60);
            check.due("payDebt() again", x.payDebt(), Calls.ILLEGAL);
        }
    }

    @Holds("Returns what is paid; ILLEGAL_STATE if there is no debt, or the purse is empty.")
    static void noDebtOrAnEmptyPurse(Check check) {
        HedgeChains none = new HedgeChains();
        check.due("payDebt() without a debt", none.payDebt(), Calls.ILLEGAL);
        check.due("purse", none.count(5), 50);
        HedgeChains empty = withDebtAndPurse(0);
        check.due("payDebt() with an empty purse", empty.payDebt(), Calls.ILLEGAL);
        check.due("debt", empty.count(6), 10);
        HedgeChains both = Calls.with(0, "t1*10");
        both.contract(0, 0, 0, 5);
        both.pass(1);
        check.due("purse", both.count(5), 0);
        check.due("debt", both.count(6), 0);
        check.due("payDebt() with neither", both.payDebt(), Calls.ILLEGAL);
        HedgeChains one = withDebtAndPurse(1);
        check.due("payDebt() with 1 coin", one.payDebt(), 1);
    }
}
