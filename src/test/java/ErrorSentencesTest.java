/** The sentences on errors: refused calls change nothing, the first error is answered, and NONE is none. */
public final class ErrorSentencesTest {
    private interface Call {
        int answer(HedgeChains x);
    }

    private interface Start {
        HedgeChains made();
    }

    public static void main(String[] args) throws Exception {
        Sentences.run(ErrorSentencesTest.class);
    }

    /**
     * A full history, a snapshot, a text that can be read, a contract, a debt, and one chain of each kind in field 2: week 2.
     * 26 of the work, 8 stakes and 20 coins are left.
     */
    private static HedgeChains busy() {
        HedgeChains x = Calls.with(2, "t5l3gpt1");
        x.grub(1, 4);
        x.take(1);
        x.contract(0, 20, 1, 9);
        x.pass(2);
        x.lay(0, 0, 1);
        x.grub(0, 1);
        return Calls.typed(x, "g*3");
    }

    /** The same in a closed week. */
    private static HedgeChains closed() {
        HedgeChains x = busy();
        x.set(0, 0);
        return x;
    }

    /** No work is left. */
    private static HedgeChains tired() {
        HedgeChains x = busy();
        x.set(2, 1);
        x.pass(1);
        x.cut(2, 0);
        return x;
    }

    private static HedgeChains poor() {
        HedgeChains x = busy();
        x.pass(1);
        return x;
    }

    private static HedgeChains inWeek(int week) {
        HedgeChains x = busy();
        Calls.weeks(x, week - 2);
        return x;
    }

    private static HedgeChains late() {
        return inWeek(1000);
    }

    private static HedgeChains withText(String text) {
        HedgeChains x = busy();
        x.clearText();
        return Calls.typed(x, text);
    }

    /** What is refused leaves all as it was, what is seen of it and what undo brings back. */
    private static void refused(Check check, String call, Start start, Call refused, int due) {
        HedgeChains x = start.made();
        check.due(call, refused.answer(x), due);
        check.same("all after " + call, Calls.whole(x), Calls.whole(start.made()));
        HedgeChains undone = start.made();
        refused.answer(undone);
        HedgeChains other = start.made();
        for (int i = 0; i < 5; i++) {
            check.due("undo() after " + call, undone.undo(), other.undo());
        }
        check.same("all after " + call + " and undo()", Calls.whole(undone), Calls.whole(other));
        HedgeChains restored = start.made();
        refused.answer(restored);
        restored.restore(1);
        HedgeChains another = start.made();
        another.restore(1);
        check.same("all after " + call + " and restore(1)", Calls.whole(restored), Calls.whole(another));
    }

    private static void refused(Check check, String call, Call refused, int due) {
        refused(check, call, ErrorSentencesTest::busy, refused, due);
    }

    @Holds("A call that returns an error code changes nothing.")
    static void refusedLay(Check check) {
        refused(check, "lay(6, 0, 1)", x -> x.lay(6, 0, 1), Calls.INVALID);
        refused(check, "lay(1, 10, 1)", x -> x.lay(1, 10, 1), Calls.INVALID);
        refused(check, "lay(1, 0, 31)", x -> x.lay(1, 0, 31), Calls.INVALID);
        refused(check, "lay(1, 0, 0)", x -> x.lay(1, 0, 0), Calls.INVALID);
        for (int chain = 1; chain < 5; chain++) {
            int from = chain;
            refused(check, "lay(2, " + from + ", 5)", x -> x.lay(2, from, 5), Calls.ILLEGAL);
        }
        refused(check, "lay in a closed week", ErrorSentencesTest::closed, x -> x.lay(1, 0, 1), Calls.ILLEGAL);
        refused(check, "lay without work", ErrorSentencesTest::tired, x -> x.lay(1, 0, 1), Calls.ILLEGAL);
        refused(check, "lay without stakes", () -> {
            HedgeChains x = busy();
            x.lay(1, 0, 4);
            return x;
        }, x -> x.lay(3, 0, 1), Calls.ILLEGAL);
    }

    @Holds("A call that returns an error code changes nothing.")
    static void refusedCut(Check check) {
        refused(check, "cut(6, 0)", x -> x.cut(6, 0), Calls.INVALID);
        refused(check, "cut(2, 5)", x -> x.cut(2, 5), Calls.INVALID);
        for (int chain = 1; chain < 5; chain++) {
            int which = chain;
            refused(check, "cut(2, " + which + ")", x -> x.cut(2, which), Calls.ILLEGAL);
        }
        refused(check, "cut in a closed week", ErrorSentencesTest::closed, x -> x.cut(1, 0), Calls.ILLEGAL);
        refused(check, "cut without work", ErrorSentencesTest::tired, x -> x.cut(1, 0), Calls.ILLEGAL);
    }

    @Holds("A call that returns an error code changes nothing.")
    static void refusedPlant(Check check) {
        refused(check, "plant(-1, 0)", x -> x.plant(-1, 0), Calls.INVALID);
        refused(check, "plant(2, 5)", x -> x.plant(2, 5), Calls.INVALID);
        for (int chain : new int[] {0, 1, 3, 4}) {
            refused(check, "plant(2, " + chain + ")", x -> x.plant(2, chain), Calls.ILLEGAL);
        }
        refused(check, "plant without work", ErrorSentencesTest::tired, x -> x.plant(2, 2), Calls.ILLEGAL);
        refused(check, "plant without coins", ErrorSentencesTest::poor, x -> x.plant(2, 2), Calls.ILLEGAL);
    }

    @Holds("A call that returns an error code changes nothing.")
    static void refusedGrub(Check check) {
        refused(check, "grub(6, 0)", x -> x.grub(6, 0), Calls.INVALID);
        refused(check, "grub(2, -1)", x -> x.grub(2, -1), Calls.INVALID);
        refused(check, "grub(2, 5)", x -> x.grub(2, 5), Calls.INVALID);
        refused(check, "grub(2, 2)", x -> x.grub(2, 2), Calls.ILLEGAL);
    }

    @Holds("A call that returns an error code changes nothing.")
    static void refusedPass(Check check) {
        refused(check, "pass(0)", x -> x.pass(0), Calls.INVALID);
        refused(check, "pass(61)", x -> x.pass(61), Calls.INVALID);
        refused(check, "pass(6) in week 995", () -> inWeek(995), x -> x.pass(6), Calls.FULL);
        refused(check, "pass(1) in week 1000", ErrorSentencesTest::late, x -> x.pass(1), Calls.FULL);
        refused(check, "pass(60) in week 1000", ErrorSentencesTest::late, x -> x.pass(60), Calls.FULL);
    }

    @Holds("A call that returns an error code changes nothing.")
    static void refusedSet(Check check) {
        int[][] bad = {{-1, 1}, {3, 1}, {0, -1}, {0, 52}, {1, -1}, {1, 52}, {2, 0}, {2, 101}};
        for (int[] each : bad) {
            refused(check, "set(" + each[0] + ", " + each[1] + ")", x -> x.set(each[0], each[1]), Calls.INVALID);
        }
    }

    @Holds("A call that returns an error code changes nothing.")
    static void refusedContract(Check check) {
        int[][] bad = {{6, 1, 1, 1, -1}, {1, 21, 1, 1, -1}, {1, 1, 101, 1, -1}, {1, 1, 1, 10, -1}, {1, 1, 1, -1, -1}, {0, 1, 1, 1, -2}};
        for (int[] each : bad) {
            refused(check, "contract", x -> x.contract(each[0], each[1], each[2], each[3]), each[4]);
        }
        refused(check, "contract when none stands", () -> {
            HedgeChains x = busy();
            x.clearText();
            Calls.readHedge(x, 3, "l4gp");
            return x;
        }, x -> x.contract(3, 1, 1, 1), Calls.ILLEGAL);
    }

    @Holds("A call that returns an error code changes nothing.")
    static void refusedGiveBackAndPayDebt(Check check) {
        refused(check, "giveBack(6)", x -> x.giveBack(6), Calls.INVALID);
        refused(check, "giveBack(1)", x -> x.giveBack(1), Calls.ILLEGAL);
        refused(check, "payDebt() without a debt", HedgeChains::new, x -> x.payDebt(), Calls.ILLEGAL);
        refused(check, "payDebt() without coins", ErrorSentencesTest::poor, x -> x.payDebt(), Calls.ILLEGAL);
    }

    @Holds("A call that returns an error code changes nothing.")
    static void refusedTakeRestoreUndo(Check check) {
        refused(check, "take(2)", x -> x.take(2), Calls.INVALID);
        refused(check, "take(-1)", x -> x.take(-1), Calls.INVALID);
        refused(check, "restore(2)", x -> x.restore(2), Calls.INVALID);
        refused(check, "restore(0)", x -> x.restore(0), Calls.ILLEGAL);
        refused(check, "undo() of none", () -> Calls.typed(new HedgeChains(), "g"), x -> x.undo(), Calls.ILLEGAL);
    }

    @Holds("A call that returns an error code changes nothing.")
    static void refusedAppendAndRead(Check check) {
        refused(check, "append(0)", x -> x.append(0), Calls.INVALID);
        refused(check, "append(256)", x -> x.append(256), Calls.INVALID);
        refused(check, "append(103) to 80 characters", () -> withText("g".repeat(80)), x -> x.append('g'), Calls.FULL);
        refused(check, "read(6)", x -> x.read(6), Calls.INVALID);
        refused(check, "read(-1)", x -> x.read(-1), Calls.INVALID);
        refused(check, "read of no text", () -> withText(""), x -> x.read(0), -1000);
        refused(check, "read of t", () -> withText("t"), x -> x.read(0), -1001);
        refused(check, "read of l5*3x", () -> withText("l5*3x"), x -> x.read(0), -1004);
        refused(check, "read of g*30g", () -> withText("g*30g"), x -> x.read(0), Calls.FULL);
        HedgeChains kept = withText("g*3x");
        kept.read(0);
        kept.clearText();
        check.due("a text that was refused leaves nothing for the next", Calls.typed(kept, "g*2").read(0), 2);
        HedgeChains goesOn = withText("g*3");
        goesOn.append(0);
        goesOn.append(256);
        goesOn.read(6);
        check.due("the text is as it was", Calls.typed(goesOn, "0").read(0), 30);
    }

    @Holds("A call that returns an error code changes nothing.")
    static void refusedLooks(Check check) {
        refused(check, "count(18)", x -> x.count(18), Calls.INVALID);
        refused(check, "field(0, 11)", x -> x.field(0, 11), Calls.INVALID);
        refused(check, "chain(0, 0, 3)", x -> x.chain(0, 0, 3), Calls.INVALID);
        refused(check, "toLay(0, 2)", x -> x.toLay(0, 2), Calls.INVALID);
        refused(check, "stakesIn(6)", x -> x.stakesIn(6), Calls.INVALID);
        refused(check, "doneIn(6)", x -> x.doneIn(6), Calls.INVALID);
        refused(check, "bestOrder(2)", x -> x.bestOrder(2), Calls.INVALID);
        refused(check, "doneIn(1), which is none", ErrorSentencesTest::tired, x -> x.doneIn(1), Calls.NONE);
        refused(check, "bestOrder(0), which is none", HedgeChains::new, x -> x.bestOrder(0), Calls.NONE);
    }

    @Holds("If several error conditions apply, the method returns the one that its description lists first")
    static void theFirstErrorOfSeveral(Check check) {
        HedgeChains closed = closed();
        check.due("lay of no chain in a closed week", closed.lay(1, 10, 1), Calls.INVALID);
        check.due("lay of too many in a closed week", closed.lay(1, 0, 31), Calls.INVALID);
        check.due("cut of no chain in a closed week", closed.cut(1, 10), Calls.INVALID);
        check.due("cut in no field in a closed week", closed.cut(6, 0), Calls.INVALID);
        HedgeChains busy = busy();
        check.due("lay of too many, of which the first is a gap", busy.lay(2, 2, 31), Calls.INVALID);
        check.due("lay of none, of which the first is laid", busy.lay(2, 1, 0), Calls.INVALID);
        check.due("contract for too much where one is", busy.contract(0, 21, 1, 1), Calls.INVALID);
        check.due("contract for too long where one is", busy.contract(0, 1, 101, 1), Calls.INVALID);
        check.due("contract with too high a fine where one is", busy.contract(0, 1, 1, 10), Calls.INVALID);
        Calls.readHedge(busy, 5, "l3");
        check.due("contract for too much where none stands", busy.contract(5, -1, 1, 1), Calls.INVALID);
        HedgeChains tired = tired();
        check.due("plant of no chain without work", tired.plant(2, 5), Calls.INVALID);
        check.due("cut of no chain without work", tired.cut(2, 5), Calls.INVALID);
        check.due("lay of no chain without work", tired.lay(2, 5, 1), Calls.INVALID);
        HedgeChains poor = poor();
        check.due("plant of no chain without coins", poor.plant(6, 0), Calls.INVALID);
        HedgeChains late = late();
        check.due("pass(61) in week 1000", late.pass(61), Calls.INVALID);
        check.due("pass(0) in week 1000", late.pass(0), Calls.INVALID);
        HedgeChains full = withText("g".repeat(80));
        check.due("append(0) to 80 characters", full.append(0), Calls.INVALID);
        check.due("append(256) to 80 characters", full.append(256), Calls.INVALID);
        check.due("read(6) of more than 30 chains", full.read(6), Calls.INVALID);
        check.due("read(6) of a fault", withText("x").read(6), Calls.INVALID);
        check.due("read(-1) of no text", withText("").read(-1), Calls.INVALID);
        check.due("read(0) of a fault behind more than 30 chains", withText("g*30g*30x").read(0), -1008);
        check.due("read(0) of an end too early behind them", withText("g*30g*30t").read(0), -1009);
        check.due("read(0) of a number above 30 behind them", withText("g*30g*30g*31").read(0), -1011);
    }

    @Holds("NONE is no error, and it is returned only if no error condition applies.")
    static void noneIsNoError(Check check) {
        HedgeChains x = new HedgeChains();
        check.due("bestOrder(0) without a contract", x.bestOrder(0), Calls.NONE);
        check.due("bestOrder(2) without a contract", x.bestOrder(2), Calls.INVALID);
        check.due("bestOrder(-1) without a contract", x.bestOrder(-1), Calls.INVALID);
        for (int what : new int[] {6, 8, 9, 10}) {
            check.due("field(0, " + what + ")", x.field(0, what), Calls.NONE);
            check.due("field(6, " + what + ")", x.field(6, what), Calls.INVALID);
            check.due("field(-1, " + what + ")", x.field(-1, what), Calls.INVALID);
        }
        x.set(2, 3);
        check.due("doneIn(5)", x.doneIn(5), Calls.NONE);
        check.due("doneIn(6)", x.doneIn(6), Calls.INVALID);
        check.due("doneIn(-1)", x.doneIn(-1), Calls.INVALID);
    }

    @Holds("`INVALID_ARGUMENT = -1`: An argument is out of range, or names something that does not exist.")
    static void invalidArgument(Check check) {
        check.due("INVALID_ARGUMENT", HedgeChains.INVALID_ARGUMENT, -1);
        check.due("take(2)", new HedgeChains().take(2), -1);
        check.due("cut(0, 10)", new HedgeChains().cut(0, 10), -1);
    }

    @Holds("`ILLEGAL_STATE = -2`: The call is not possible in the present state.")
    static void illegalState(Check check) {
        check.due("ILLEGAL_STATE", HedgeChains.ILLEGAL_STATE, -2);
        check.due("undo()", new HedgeChains().undo(), -2);
    }

    @Holds("`CAPACITY_EXCEEDED = -3`: There is no room.")
    static void capacityExceeded(Check check) {
        check.due("CAPACITY_EXCEEDED", HedgeChains.CAPACITY_EXCEEDED, -3);
        check.due("append(103)", withText("g".repeat(80)).append('g'), -3);
        check.due("pass(1)", late().pass(1), -3);
        check.due("read(0)", withText("g*30g").read(0), -3);
    }

    @Holds("`NONE = -9`: There is no such value.")
    static void none(Check check) {
        check.due("NONE", HedgeChains.NONE, -9);
        check.due("bestOrder(1)", new HedgeChains().bestOrder(1), -9);
    }
}
