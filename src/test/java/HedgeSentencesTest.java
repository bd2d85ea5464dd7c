/** The sentences on fields, hedges and chains, and on the arguments that name a field or a chain. */
public final class HedgeSentencesTest {
    private interface OnField {
        int answer(HedgeChains x, int field);
    }

    private interface OnChain {
        int answer(HedgeChains x, int chain);
    }

    public static void main(String[] args) throws Exception {
        Sentences.run(HedgeSentencesTest.class);
    }

    @Holds("Creates fields with their hedges, without contracts, and an empty text.")
    static void aNewObject(Check check) {
        HedgeChains x = new HedgeChains();
        for (int field = 0; field < 6; field++) {
            check.due("chains of field " + field, x.field(field, 0), 10);
            check.due("contract of field " + field, x.field(field, 7), 0);
        }
        check.due("contracts", x.count(9), 0);
        check.due("length of the text", x.count(17), 0);
        check.due("read(0) of the empty text", x.read(0), -1000);
    }

    @Holds("There are 6 fields, 0 to 5.")
    static void sixFields(Check check) {
        HedgeChains x = new HedgeChains();
        for (int field = 0; field <= 5; field++) {
            check.due("field(" + field + ", 0)", x.field(field, 0), 10);
        }
        check.due("field(6, 0)", x.field(6, 0), Calls.INVALID);
        for (int field : Calls.BEYOND) {
            check.due("field(" + field + ", 0)", x.field(field, 0), Calls.INVALID);
        }
        Calls.readHedge(x, 0, "g");
        Calls.readHedge(x, 5, "gg");
        int[] lengths = {1, 10, 10, 10, 10, 2};
        for (int field = 0; field <= 5; field++) {
            check.due("each has its own hedge: " + field, x.field(field, 0), lengths[field]);
        }
    }

    @Holds("`field`: 0 to 5")
    static void eachMethodTakesTheSixFields(Check check) {
        takesTheSixFields(check, "lay", 1, (x, field) -> x.lay(field, 0, 1));
        takesTheSixFields(check, "cut", 14, (x, field) -> x.cut(field, 0));
        takesTheSixFields(check, "plant", 28, (x, field) -> x.plant(field, 1));
        takesTheSixFields(check, "grub", 0, (x, field) -> x.grub(field, 0));
        takesTheSixFields(check, "contract", 2, (x, field) -> x.contract(field, 1, 1, 1));
        takesTheSixFields(check, "giveBack", 15, (x, field) -> {
            x.contract(field, 1, 1, 3);
            return x.giveBack(field);
        });
        takesTheSixFields(check, "read", 4, (x, field) -> x.read(field));
        takesTheSixFields(check, "field", 3, (x, field) -> x.field(field, 0));
        takesTheSixFields(check, "chain", 4, (x, field) -> x.chain(field, 0, 1));
        takesTheSixFields(check, "toLay", 9, (x, field) -> x.toLay(field, 0));
        takesTheSixFields(check, "stakesIn", 12, (x, field) -> x.stakesIn(field));
        takesTheSixFields(check, "doneIn", 0, (x, field) -> x.doneIn(field));
    }

    private static void takesTheSixFields(Check check, String call, int due, OnField on) {
        for (int field = 0; field <= 5; field++) {
            check.due(call + " of field " + field, on.answer(smallHedges(), field), due);
        }
        check.due(call + " of field 6", on.answer(smallHedges(), 6), Calls.INVALID);
        for (int field : Calls.BEYOND) {
            check.due(call + " of field " + field, on.answer(smallHedges(), field), Calls.INVALID);
        }
    }

    private static HedgeChains smallHedges() {
        HedgeChains x = new HedgeChains();
        for (int field = 0; field < 6; field++) {
            Calls.readHedge(x, field, "t4gt5");
        }
        return Calls.typed(x, "g*4");
    }

    @Holds("Each has a hedge of 1 to 30 chains, numbered from 0")
    static void oneToThirtyChains(Check check) {
        HedgeChains x = new HedgeChains();
        check.due("read(0) of no chain", Calls.readHedge(x, 0, ""), -1000);
        check.due("read(0) of 1 chain", Calls.readHedge(x, 0, "t1"), 1);
        check.due("chain(0, 0, 1)", x.chain(0, 0, 1), 1);
        check.due("chain(0, 1, 1)", x.chain(0, 1, 1), Calls.INVALID);
        check.due("chain(0, -1, 1)", x.chain(0, -1, 1), Calls.INVALID);
        check.due("read(0) of 30 chains", Calls.readHedge(x, 0, "t1*29t2"), 30);
        check.due("chain(0, 0, 1)", x.chain(0, 0, 1), 1);
        check.due("chain(0, 28, 1)", x.chain(0, 28, 1), 1);
        check.due("chain(0, 29, 1)", x.chain(0, 29, 1), 2);
        check.due("chain(0, 30, 1)", x.chain(0, 30, 1), Calls.INVALID);
        check.due("read(0) of 31 chains", Calls.readHedge(x, 0, "t1*30t2"), Calls.FULL);
        check.due("chains", x.field(0, 0), 30);
    }

    @Holds("`chain`: a chain of its hedge")
    static void eachMethodTakesTheChainsThatThereAre(Check check) {
        takesTheChainsThatThereAre(check, "cut", "t4", 14, (x, chain) -> x.cut(3, chain));
        takesTheChainsThatThereAre(check, "plant", "g", 28, (x, chain) -> x.plant(3, chain));
        takesTheChainsThatThereAre(check, "grub", "l4", 1, (x, chain) -> x.grub(3, chain));
        takesTheChainsThatThereAre(check, "chain", "p", 3, (x, chain) -> x.chain(3, chain, 0));
    }

    @Holds("`from`: a chain of its hedge")
    static void layBeginsAtAChainThatThereIs(Check check) {
        takesTheChainsThatThereAre(check, "lay", "t4", 1, (x, chain) -> x.lay(3, chain, 1));
    }

    private static void takesTheChainsThatThereAre(Check check, String call, String each, int due, OnChain on) {
        for (int length : new int[] {1, 2, 10, 29, 30}) {
            String text = each + "*" + length;
            check.due(call + " of the first of " + length, on.answer(Calls.with(3, text), 0), due);
            check.due(call + " of the last of " + length, on.answer(Calls.with(3, text), length - 1), due);
            check.due(call + " of one beyond " + length, on.answer(Calls.with(3, text), length), Calls.INVALID);
            for (int chain : Calls.BEYOND) {
                check.due(call + " of chain " + chain, on.answer(Calls.with(3, text), chain), Calls.INVALID);
            }
        }
        HedgeChains shorter = Calls.with(3, each + "*30");
        Calls.readHedge(shorter, 3, each);
        check.due(call + " of a chain that was once", on.answer(shorter, 1), Calls.INVALID);
        HedgeChains other = Calls.with(2, each + "*30");
        Calls.readHedge(other, 3, each + "*5");
        check.due(call + " of a chain that another field has", on.answer(other, 5), Calls.INVALID);
    }

    @Holds("(at first 10 chains that stand, of the thickness 4)")
    static void tenChainsAtFirst(Check check) {
        HedgeChains x = new HedgeChains();
        for (int field = 0; field < 6; field++) {
            check.due("chains", x.field(field, 0), 10);
            check.due("of those that stand", x.field(field, 1), 10);
            for (int chain = 0; chain < 10; chain++) {
                check.due("thickness", x.chain(field, chain, 1), 4);
                check.due("age", x.chain(field, chain, 2), 0);
            }
            check.due("an eleventh", x.chain(field, 10, 0), Calls.INVALID);
        }
    }

    @Holds("A chain stands (0), is laid (1), is a gap (2) or planted (3).")
    static void fourKinds(Check check) {
        HedgeChains x = Calls.with(0, "t3l3gp");
        for (int chain = 0; chain < 4; chain++) {
            check.due("chain(0, " + chain + ", 0)", x.chain(0, chain, 0), chain);
        }
        x.lay(0, 0, 1);
        x.grub(0, 1);
        x.plant(0, 2);
        check.due("laid", x.chain(0, 0, 0), 1);
        check.due("grubbed", x.chain(0, 1, 0), 2);
        check.due("planted", x.chain(0, 2, 0), 3);
        x.pass(6);
        check.due("stands", x.chain(0, 2, 0), 0);
    }

    @Holds("It has a thickness: 1 to 9 if it stands or is laid, 0 otherwise")
    static void thicknesses(Check check) {
        HedgeChains x = Calls.with(0, "t1t9l1l9gpt3");
        int[] due = {1, 9, 1, 9, 0, 0, 3};
        for (int chain = 0; chain < due.length; chain++) {
            check.due("chain(0, " + chain + ", 1)", x.chain(0, chain, 1), due[chain]);
        }
        x.cut(0, 6);
        check.due("the thinnest after a cut", x.chain(0, 6, 1), 1);
        x.grub(0, 1);
        x.grub(0, 3);
        check.due("a gap that stood", x.chain(0, 1, 1), 0);
        check.due("a gap that was laid", x.chain(0, 3, 1), 0);
        x.plant(0, 1);
        x.pass(5);
        check.due("planted for 5 weeks", x.chain(0, 1, 1), 0);
        x.pass(1);
        check.due("stands", x.chain(0, 1, 1), 1);
        Calls.readHedge(x, 1, "t1t9l1l9");
        for (int week = 6; week < 200; week++) {
            x.pass(1);
            int chain = week % 4;
            int thickness = x.chain(1, chain, 1);
            check.due("1 to 9 in week " + week, thickness >= 1 && thickness <= 9 ? 1 : 0, 1);
        }
    }

    @Holds("a planted one has an age in weeks.")
    static void ages(Check check) {
        HedgeChains x = Calls.with(0, "pg");
        for (int week = 0; week < 6; week++) {
            check.due("age in week " + week, x.chain(0, 0, 2), week);
            x.pass(1);
        }
        check.due("age of one that stands", x.chain(0, 0, 2), 0);
        x.plant(0, 1);
        x.pass(2);
        check.due("age since it was planted", x.chain(0, 1, 2), 2);
    }
}
