import java.util.ArrayList;
import java.util.List;

/** The sentences on snapshots and undo, and on which calls are actions. */
public final class KeepingSentencesTest {
    private interface Call {
        int answer(HedgeChains x);
    }

    public static void main(String[] args) throws Exception {
        Sentences.run(KeepingSentencesTest.class);
    }

    /** Laid and planted chains and gaps, contracts, a debt, and numbers that are set: week 7. */
    private static HedgeChains busy() {
        HedgeChains x = Calls.with(2, "t5*4l3*2gpt1g");
        x.contract(2, 3, 1, 9);
        x.contract(4, 7, 80, 2);
        x.lay(2, 0, 2);
        x.cut(2, 2);
        x.plant(2, 6);
        x.set(0, 20);
        x.set(1, 44);
        x.set(2, 33);
        x.pass(2);
        x.plant(2, 9);
        x.pass(5);
        x.lay(4, 3, 1);
        return x;
    }

    /** Each number that can be seen of a busy one becomes another. */
    private static void changeAll(HedgeChains x) {
        x.grub(2, 0);
        x.plant(2, 0);
        x.giveBack(4);
        x.contract(1, 9, 9, 9);
        x.contract(3, 20, 1, 1);
        x.lay(3, 5, 1);
        x.set(0, 3);
        x.set(1, 12);
        x.set(2, 50);
        Calls.readHedge(x, 5, "l1*30");
        Calls.readHedge(x, 0, "p");
        x.pass(50);
    }

    @Holds("There are two slots for snapshots, empty at first.")
    static void twoSlots(Check check) {
        HedgeChains x = new HedgeChains();
        check.due("snapshots", x.count(15), 0);
        check.due("restore(0)", x.restore(0), Calls.ILLEGAL);
        check.due("restore(1)", x.restore(1), Calls.ILLEGAL);
        x.pass(1);
        check.due("take(0)", x.take(0), 1);
        check.due("restore(1)", x.restore(1), Calls.ILLEGAL);
        x.pass(1);
        check.due("take(1)", x.take(1), 2);
        x.pass(1);
        check.due("restore(0)", x.restore(0), 1);
        check.due("restore(1)", x.restore(1), 2);
        check.due("restore(0) again", x.restore(0), 1);
    }

    @Holds("`slot`: 0 or 1")
    static void slotsThatThereAre(Check check) {
        HedgeChains x = new HedgeChains();
        x.pass(5);
        check.due("take(-1)", x.take(-1), Calls.INVALID);
        check.due("take(2)", x.take(2), Calls.INVALID);
        check.due("restore(-1)", x.restore(-1), Calls.INVALID);
        check.due("restore(2)", x.restore(2), Calls.INVALID);
        for (int slot = 0; slot <= 1; slot++) {
            check.due("take(" + slot + ")", x.take(slot), 5);
            check.due("restore(" + slot + ")", x.restore(slot), 5);
        }
        check.due("restore(2) when both are full", x.restore(2), Calls.INVALID);
    }

    @Holds("A snapshot keeps everything but the text, the slots and the history.")
    static void whatASnapshotKeeps(Check check) {
        HedgeChains x = busy();
        x.append('g');
        x.take(0);
        changeAll(x);
        x.take(1);
        x.append('*');
        x.undo();
        x.undo();
        check.due("states", x.count(16), 3);
        check.due("restore(0)", x.restore(0), 7);
        check.due("the text is not kept", x.count(17), 1);
        check.due("the history is not kept", x.count(16), 4);
        x.clearText();
        check.due("undo()", x.undo(), 3);
        check.due("the hedge that was read", x.field(5, 0), 30);
        HedgeChains slots = new HedgeChains();
        slots.take(0);
        slots.pass(1);
        slots.take(1);
        check.due("restore(0), which had no slot 1", slots.restore(0), 0);
        check.due("the slots are not kept", slots.count(15), 2);
        check.due("restore(1)", slots.restore(1), 1);
        slots.pass(1);
        slots.take(0);
        check.due("restore(1), which had another slot 0", slots.restore(1), 1);
        check.due("slot 0 as it is now", slots.restore(0), 2);
    }

    @Holds("To restore it makes all this as it was.")
    static void allAsItWas(Check check) {
        HedgeChains x = busy();
        x.take(1);
        changeAll(x);
        String changed = Calls.counted(x);
        x.restore(1);
        check.same("all that a snapshot keeps", Calls.wholeLand(x), Calls.wholeLand(busy()));
        String[] now = changed.split(" ");
        String[] before = Calls.counted(busy()).split(" ");
        for (int what = 0; what < 15; what++) {
            // count(2) and the number of contracts have but few values.
            check.due("count(" + what + ") was changed", what == 9 || !now[what].equals(before[what]) ? 1 : 0, 1);
        }
        HedgeChains contracts = new HedgeChains();
        contracts.contract(3, 4, 5, 6);
        contracts.take(0);
        contracts.giveBack(3);
        contracts.contract(3, 7, 8, 9);
        contracts.contract(2, 7, 8, 9);
        contracts.restore(0);
        int[] due = {1, 4, 5, 6};
        for (int what = 7; what <= 10; what++) {
            check.due("field(3, " + what + ")", contracts.field(3, what), due[what - 7]);
        }
        check.due("field(2, 7)", contracts.field(2, 7), 0);
        check.due("purse", contracts.count(5), 50);
    }

    @Holds("Takes a snapshot, in place of one that is there.")
    static void inPlaceOfTheOther(Check check) {
        HedgeChains x = new HedgeChains();
        for (int week = 0; week < 12; week++) {
            check.due("take(0)", x.take(0), week);
            check.due("snapshots", x.count(15), 1);
            check.due("restore(0)", x.restore(0), week);
            x.pass(1);
        }
        check.due("the latest one", x.restore(0), 11);
    }

    @Holds("Returns the present week; INVALID_ARGUMENT if slot is out of range.")
    static void whatTakeAnswers(Check check) {
        HedgeChains x = new HedgeChains();
        check.due("take(0)", x.take(0), 0);
        Calls.weeks(x, 1000);
        check.due("take(1)", x.take(1), 1000);
        check.due("take(-1)", x.take(-1), Calls.INVALID);
        check.due("take(2)", x.take(2), Calls.INVALID);
        for (int slot : Calls.BEYOND) {
            check.due("take(" + slot + ")", x.take(slot), Calls.INVALID);
        }
    }

    @Holds("Restores a snapshot, which stays.")
    static void itStays(Check check) {
        HedgeChains x = busy();
        x.take(0);
        for (int again = 0; again < 3; again++) {
            changeAll(x);
            check.due("restore(0)", x.restore(0), 7);
            check.due("snapshots", x.count(15), 1);
        }
        check.same("all as it was", Calls.wholeLand(x), Calls.wholeLand(busy()));
        HedgeChains y = busy();
        y.take(0);
        y.restore(0);
        changeAll(y);
        y.restore(0);
        check.same("changes after a restore are not in it", Calls.wholeLand(y), Calls.wholeLand(busy()));
        HedgeChains two = busy();
        two.take(0);
        two.take(1);
        two.restore(0);
        changeAll(two);
        two.restore(1);
        check.same("nor in another one that was taken with it", Calls.wholeLand(two), Calls.wholeLand(busy()));
    }

    @Holds("Returns the present week then; INVALID_ARGUMENT if slot is out of range; ILLEGAL_STATE if the slot is empty.")
    static void whatRestoreAnswers(Check check) {
        HedgeChains x = new HedgeChains();
        x.pass(3);
        x.take(1);
        x.pass(40);
        check.due("restore(1)", x.restore(1), 3);
        check.due("week", x.count(0), 3);
        check.due("restore(0)", x.restore(0), Calls.ILLEGAL);
        check.due("restore(-1)", x.restore(-1), Calls.INVALID);
        check.due("restore(2)", x.restore(2), Calls.INVALID);
        for (int slot : Calls.BEYOND) {
            check.due("restore(" + slot + ")", x.restore(slot), Calls.INVALID);
        }
        x.take(0);
        x.undo();
        check.due("restore(0) after undo() of take(0)", x.restore(0), Calls.ILLEGAL);
    }

    @Holds("A history of at most 5 states is kept;")
    static void fiveStates(Check check) {
        for (int actions : new int[] {1, 4, 5, 6, 7, 10, 11, 100, 400}) {
            HedgeChains x = new HedgeChains();
            for (int i = 0; i < actions; i++) {
                x.set(0, i % 52);
            }
            int states = Math.min(actions, 5);
            check.due("states after " + actions + " actions", x.count(16), states);
            for (int left = states - 1; left >= 0; left--) {
                check.due("undo()", x.undo(), left);
            }
            check.due("undo() of none", x.undo(), Calls.ILLEGAL);
        }
    }

    @Holds("a state is everything but the text and the history (the slots belong to it).")
    static void whatAStateIs(Check check) {
        HedgeChains x = Calls.typed(new HedgeChains(), "t2");
        x.pass(1);
        x.append('*');
        check.due("undo()", x.undo(), 0);
        check.due("the text is in no state", x.count(17), 3);
        x.append('4');
        check.due("read(0)", x.read(0), 4);
        check.due("undo()", x.undo(), 0);
        check.due("the hedge is as before", x.field(0, 0), 10);
        check.due("the text stays empty", x.count(17), 0);
        HedgeChains slots = new HedgeChains();
        slots.pass(1);
        slots.take(0);
        slots.pass(1);
        slots.take(0);
        slots.take(1);
        check.due("undo() of take(1)", slots.undo(), 4);
        check.due("one snapshot", slots.count(15), 1);
        check.due("undo() of the second take(0)", slots.undo(), 3);
        check.due("one snapshot", slots.count(15), 1);
        check.due("restore(0)", slots.restore(0), 1);
        check.due("undo() of it", slots.undo(), 3);
        check.due("undo() of pass(1)", slots.undo(), 2);
        check.due("undo() of the first take(0)", slots.undo(), 1);
        check.due("no snapshot", slots.count(15), 0);
        check.due("restore(0)", slots.restore(0), Calls.ILLEGAL);
        HedgeChains history = new HedgeChains();
        history.take(0);
        history.pass(1);
        history.pass(1);
        history.restore(0);
        check.due("restore(0) leaves the history", history.count(16), 4);
        check.due("undo()", history.undo(), 3);
        check.due("week", history.count(0), 2);
    }

    /** Four states in the history, a purse of 5 coins, a debt of 10, and a text to read: week 1. */
    private static HedgeChains ready() {
        HedgeChains x = Calls.with(2, "t5l3gp");
        x.contract(0, 5, 0, 6);
        x.pass(1);
        x.lay(0, 0, 1);
        return Calls.typed(x, "gg");
    }

    private interface Start {
        HedgeChains made();
    }

    private static void recordsOne(Check check, String call, Start start, Call action, int due) {
        HedgeChains x = start.made();
        int states = x.count(16);
        check.due(call, action.answer(x), due);
        check.due("states after " + call, x.count(16), states + 1);
        check.due("undo() of " + call, x.undo(), states);
        HedgeChains y = start.made();
        check.due("snapshots after undo() of " + call, x.count(15), y.count(15));
        check.same("all after undo() of " + call, Calls.wholeLand(x), Calls.wholeLand(y));
    }

    @Holds("This is an action")
    static void eachActionRecordsAState(Check check) {
        recordsOne(check, "lay", KeepingSentencesTest::ready, x -> x.lay(1, 0, 2), 2);
        recordsOne(check, "lay of a field with a contract", KeepingSentencesTest::ready, x -> x.lay(0, 1, 3), 3);
        recordsOne(check, "cut", KeepingSentencesTest::ready, x -> x.cut(1, 0), 12);
        recordsOne(check, "plant", KeepingSentencesTest::ready, x -> x.plant(2, 2), 24);
        recordsOne(check, "grub", KeepingSentencesTest::ready, x -> x.grub(2, 1), 1);
        recordsOne(check, "pass", KeepingSentencesTest::ready, x -> x.pass(2), 108);
        recordsOne(check, "pass of a year", KeepingSentencesTest::ready, x -> x.pass(52), 52 * 54);
        recordsOne(check, "set", KeepingSentencesTest::ready, x -> x.set(2, 1), 30);
        recordsOne(check, "contract", KeepingSentencesTest::ready, x -> x.contract(3, 1, 2, 3), 10);
        recordsOne(check, "giveBack", KeepingSentencesTest::ready, x -> x.giveBack(0), 30);
        recordsOne(check, "payDebt", KeepingSentencesTest::ready, x -> x.payDebt(), 5);
        recordsOne(check, "take", KeepingSentencesTest::ready, x -> x.take(1), 1);
        recordsOne(check, "read", KeepingSentencesTest::ready, x -> x.read(0), 2);
    }

    @Holds("Restores a snapshot, which stays. This is an action.")
    static void restoreRecordsAState(Check check) {
        HedgeChains x = new HedgeChains();
        x.take(0);
        x.pass(3);
        check.due("states", x.count(16), 2);
        check.due("restore(0)", x.restore(0), 0);
        check.due("states after restore(0)", x.count(16), 3);
        check.due("undo() of restore(0)", x.undo(), 2);
        check.due("week", x.count(0), 3);
        check.due("a slot that was not there before it", x.count(15), 1);
        HedgeChains busy = busy();
        busy.take(0);
        changeAll(busy);
        busy.restore(0);
        busy.undo();
        HedgeChains changed = busy();
        changeAll(changed);
        check.same("all after undo() of restore(0)", Calls.wholeLand(busy), Calls.wholeLand(changed));
    }

    @Holds("Every successful call of a method that is called an action records the state before it (also if nothing changes by it);")
    static void actionsThatChangeNothing(Check check) {
        recordsOne(check, "set(0, 10) to the same", KeepingSentencesTest::ready, x -> x.set(0, 10), 10);
        recordsOne(check, "set(1, 30) to the same", KeepingSentencesTest::ready, x -> x.set(1, 30), 30);
        recordsOne(check, "set(2, 30) to the same", KeepingSentencesTest::ready, x -> x.set(2, 30), 30);
        HedgeChains restored = new HedgeChains();
        restored.take(0);
        HedgeChains taken = new HedgeChains();
        taken.take(1);
        HedgeChains read = new HedgeChains();
        Calls.readHedge(read, 3, "t4*10");
        for (int states = 2; states <= 5; states++) {
            restored.restore(0);
            check.due("states after restore(0)", restored.count(16), states);
            taken.take(1);
            check.due("states after take(1)", taken.count(16), states);
            Calls.readHedge(read, 3, "t4*10");
            check.due("states after read(3) of the same", read.count(16), states);
        }
    }

    @Holds("---- looking.")
    static void lookingRecordsNothing(Check check) {
        recordsNone(check, "count", x -> x.count(16));
        recordsNone(check, "count of the text", x -> x.count(17));
        recordsNone(check, "field", x -> x.field(2, 5));
        recordsNone(check, "chain", x -> x.chain(2, 3, 2));
    }

    @Holds("---- what could be, which changes nothing.")
    static void whatCouldBeChangesNothing(Check check) {
        recordsNone(check, "toLay(0, 0)", x -> x.toLay(0, 0));
        recordsNone(check, "toLay(0, 1)", x -> x.toLay(0, 1));
        recordsNone(check, "stakesIn", x -> x.stakesIn(0));
        recordsNone(check, "doneIn", x -> x.doneIn(0));
        recordsNone(check, "bestOrder(0)", x -> x.bestOrder(0));
        recordsNone(check, "bestOrder(1)", x -> x.bestOrder(1));
    }

    private static void recordsNone(Check check, String call, Call look) {
        HedgeChains x = ready();
        check.due(call + " tells a number", look.answer(x) >= 0 ? 1 : 0, 1);
        check.same("all after " + call, Calls.whole(x), Calls.whole(ready()));
        HedgeChains undone = ready();
        look.answer(undone);
        undone.undo();
        HedgeChains due = ready();
        due.undo();
        check.same("all after " + call + " and undo()", Calls.whole(undone), Calls.whole(due));
    }

    @Holds("when a sixth one is recorded, the oldest one is dropped.")
    static void theOldestIsDropped(Check check) {
        for (int actions = 6; actions <= 26; actions++) {
            HedgeChains x = new HedgeChains();
            for (int i = 0; i < actions; i++) {
                x.pass(1);
            }
            for (int back = 1; back <= 5; back++) {
                check.due("undo()", x.undo(), 5 - back);
                check.due("week", x.count(0), actions - back);
            }
            check.due("undo() beyond the oldest", x.undo(), Calls.ILLEGAL);
            check.due("week", x.count(0), actions - 5);
        }
        HedgeChains slots = new HedgeChains();
        slots.take(0);
        for (int i = 0; i < 5; i++) {
            slots.pass(1);
        }
        for (int i = 0; i < 6; i++) {
            slots.undo();
        }
        check.due("a take whose state was dropped is not undone", slots.count(15), 1);
    }

    @Holds("undo() removes the latest state from the history and restores it.")
    static void undoAmongActions(Check check) {
        String calls = "auaauuaaauuuaaaaauaaaaaaauuaaauuuuuuaaaaaaaaaaaauaauaaauaaaauuuuuuaauaauaauaauuuuua";
        HedgeChains x = new HedgeChains();
        List<Integer> weeks = new ArrayList<>();
        int week = 0;
        for (int i = 0; i < calls.length(); i++) {
            if (calls.charAt(i) == 'a') {
                weeks.add(week);
                week += i % 3 + 1;
                check.due("pass", x.pass(i % 3 + 1), 0);
                if (weeks.size() > 5) {
                    weeks.remove(0);
                }
            } else if (weeks.isEmpty()) {
                check.due("undo()", x.undo(), Calls.ILLEGAL);
            } else {
                week = weeks.remove(weeks.size() - 1);
                check.due("undo()", x.undo(), weeks.size());
            }
            check.due("week", x.count(0), week);
            check.due("states", x.count(16), weeks.size());
        }
    }

    @Holds("Removes the latest state from the history and restores it.")
    static void undoBringsAllBack(Check check) {
        for (int actions = 1; actions <= 12; actions++) {
            HedgeChains x = new HedgeChains();
            HedgeChains y = new HedgeChains();
            for (int i = 0; i < actions; i++) {
                check.due("action " + i + " is no error", act(x, i) >= 0 ? 1 : 0, 1);
            }
            int back = Math.min(actions, 5);
            for (int i = 0; i < actions - back; i++) {
                act(y, i);
            }
            for (int left = back - 1; left >= 0; left--) {
                check.due("undo()", x.undo(), left);
            }
            check.same("all after " + back + " times undo()", Calls.wholeLand(x), Calls.wholeLand(y));
            check.due("snapshots", x.count(15), y.count(15));
        }
    }

    /** Twelve actions of twelve kinds. */
    private static int act(HedgeChains x, int which) {
        switch (which) {
            case 0: return x.contract(0, 20, 0, 9);
            case 1: return x.lay(0, 3, 2);
            case 2: return x.pass(2);
            case 3: return x.take(0);
            case 4: return x.grub(1, 4);
            case 5: return x.cut(2, 2);
            case 6: return x.set(2, 50);
            case 7: return x.lay(0, 0, 1);
            case 8: return x.payDebt();
            case 9: return Calls.readHedge(x, 3, "l2g*4p");
            case 10: return x.restore(0);
            default: return x.giveBack(0);
        }
    }

    @Holds("Returns the number of states that are left in the history; ILLEGAL_STATE if it is empty.")
    static void whatUndoAnswers(Check check) {
        HedgeChains x = new HedgeChains();
        check.due("undo() of none", x.undo(), Calls.ILLEGAL);
        x.pass(1);
        check.due("undo() of one", x.undo(), 0);
        check.due("undo() of none", x.undo(), Calls.ILLEGAL);
        for (int i = 0; i < 7; i++) {
            x.pass(1);
        }
        for (int left = 4; left >= 0; left--) {
            check.due("undo()", x.undo(), left);
        }
        check.due("undo() is no action itself", x.undo(), Calls.ILLEGAL);
        check.due("week", x.count(0), 2);
    }

    @Holds("An object is used for at most 512 calls after it has been made")
    static void fiveHundredAndTwelveCalls(Check check) {
        HedgeChains x = new HedgeChains();
        for (int call = 0; call < 512; call += 8) {
            int week = call / 8;
            check.due("pass(1)", x.pass(1), 0);
            check.due("take(0)", x.take(0), week + 1);
            check.due("set(0, 1)", x.set(0, 1), 10);
            check.due("restore(0)", x.restore(0), week + 1);
            check.due("append(103)", x.append('g'), 1);
            check.due("read(0)", x.read(0), 1);
            check.due("undo()", x.undo(), 4);
            check.due("the " + (call + 8) + "th call, count(0)", x.count(0), week + 1);
        }
    }
}
