/** The sentences on what count, field and chain tell. */
public final class LookingSentencesTest {
    public static void main(String[] args) throws Exception {
        Sentences.run(LookingSentencesTest.class);
    }

    @Holds("0 the present week, 1 its week of the year, 2 1 if it is closed and 0 if not, 3 the work that is left in it")
    static void countsOfTheWeek(Check check) {
        HedgeChains x = new HedgeChains();
        x.lay(0, 0, 2);
        int[][] due = {{0, 0, 0, 0, 22}, {9, 9, 9, 0, 30}, {1, 10, 10, 1, 30}, {41, 51, 51, 0, 30}, {1, 52, 0, 0, 30},
            {12, 64, 12, 1, 30}};
        for (int[] row : due) {
            if (row[0] > 0) {
                x.pass(row[0]);
            }
            for (int what = 0; what < 4; what++) {
                check.due("count(" + what + ") in week " + row[1], x.count(what), row[what + 1]);
            }
        }
    }

    @Holds("4 the stakes in the stock, 5 the purse, 6 the debt")
    static void countsOfTheStock(Check check) {
        HedgeChains x = Calls.with(0, "gt9");
        countsOf(check, x, 10, 50, 0);
        x.cut(0, 1);
        x.lay(1, 0, 3);
        x.plant(0, 0);
        countsOf(check, x, 13, 47, 0);
        x.contract(2, 0, 0, 5);
        x.pass(1);
        countsOf(check, x, 13, 0, 3);
        x.pass(1);
        countsOf(check, x, 13, 0, 53);
    }

    private static void countsOf(Check check, HedgeChains x, int stakes, int purse, int debt) {
        check.due("count(4)", x.count(4), stakes);
        check.due("count(5)", x.count(5), purse);
        check.due("count(6)", x.count(6), debt);
    }

    @Holds("7 the coins that came by contracts so far")
    static void countOfCoins(Check check) {
        HedgeChains x = new HedgeChains();
        check.due("at first", x.count(7), 0);
        x.contract(0, 20, 0, 9);
        check.due("none is laid", x.count(7), 0);
        x.lay(1, 0, 1);
        check.due("one without a contract is", x.count(7), 0);
        x.lay(0, 0, 2);
        check.due("two are", x.count(7), 40);
        x.pass(1);
        check.due("fines are of no matter", x.count(7), 40);
        x.payDebt();
        x.giveBack(0);
        check.due("nor what is paid", x.count(7), 40);
    }

    @Holds("8 the fines that were due so far")
    static void countOfFines(Check check) {
        HedgeChains x = new HedgeChains();
        check.due("at first", x.count(8), 0);
        x.contract(0, 0, 0, 4);
        check.due("none was due", x.count(8), 0);
        x.pass(1);
        check.due("40 of the purse", x.count(8), 40);
        x.pass(2);
        check.due("80 more, mostly a debt", x.count(8), 120);
        x.giveBack(0);
        check.due("to give back is no fine", x.count(8), 120);
        x.pass(1);
        check.due("none more was due", x.count(8), 120);
    }

    @Holds("9 the number of contracts")
    static void countOfContracts(Check check) {
        HedgeChains x = new HedgeChains();
        check.due("none", x.count(9), 0);
        for (int field = 5; field >= 0; field--) {
            x.contract(field, 1, 1, 1);
            check.due("contracts", x.count(9), 6 - field);
        }
        x.giveBack(0);
        x.giveBack(5);
        check.due("two were given back", x.count(9), 4);
        Calls.readHedge(x, 3, "g");
        check.due("one has ended", x.count(9), 3);
    }

    @Holds("10 of chains that were laid so far")
    static void countOfLaidChains(Check check) {
        HedgeChains x = Calls.with(0, "l4*5");
        check.due("those that are read were not laid", x.count(10), 0);
        x.lay(1, 0, 2);
        x.lay(2, 5, 1);
        check.due("three were", x.count(10), 3);
        x.grub(1, 0);
        check.due("one is grubbed out, but was laid", x.count(10), 3);
    }

    @Holds("11 of chains that were planted so far")
    static void countOfPlantedChains(Check check) {
        HedgeChains x = Calls.with(0, "p*5g*3");
        check.due("those that are read were not planted", x.count(11), 0);
        x.plant(0, 5);
        x.plant(0, 7);
        check.due("two were", x.count(11), 2);
        x.grub(0, 5);
        x.pass(6);
        check.due("one is grubbed out, one stands, but they were planted", x.count(11), 2);
    }

    @Holds("12 to 14 what set() sets for 0 to 2")
    static void countsOfWhatIsSet(Check check) {
        HedgeChains x = new HedgeChains();
        int[] values = {10, 30, 30};
        int[][] sets = {{0, 0}, {0, 51}, {1, 0}, {1, 51}, {2, 1}, {2, 100}};
        for (int[] each : sets) {
            x.set(each[0], each[1]);
            values[each[0]] = each[1];
            for (int what = 0; what < 3; what++) {
                check.due("count(" + (12 + what) + ")", x.count(12 + what), values[what]);
            }
        }
    }

    @Holds("15 the number of snapshots")
    static void countOfSnapshots(Check check) {
        HedgeChains x = new HedgeChains();
        check.due("none", x.count(15), 0);
        x.take(1);
        check.due("one", x.count(15), 1);
        x.take(1);
        check.due("one in place of it", x.count(15), 1);
        x.take(0);
        check.due("two", x.count(15), 2);
        x.restore(1);
        check.due("two, as it stays", x.count(15), 2);
    }

    @Holds("16 of states in the history")
    static void countOfStates(Check check) {
        HedgeChains x = new HedgeChains();
        for (int actions = 0; actions < 9; actions++) {
            check.due("after " + actions + " actions", x.count(16), Math.min(actions, 5));
            x.pass(1);
        }
        for (int left = 4; left >= 0; left--) {
            x.undo();
            check.due("states", x.count(16), left);
        }
    }

    @Holds("17 the length of the text")
    static void countOfCharacters(Check check) {
        HedgeChains x = new HedgeChains();
        for (int length = 0; length < 80; length++) {
            check.due("characters", x.count(17), length);
            x.append('g');
        }
        check.due("characters", x.count(17), 80);
        x.append('g');
        check.due("no more", x.count(17), 80);
        x.clearText();
        check.due("characters", x.count(17), 0);
    }

    @Holds("Returns the number; INVALID_ARGUMENT if what is out of range.")
    static void countsThatThereAre(Check check) {
        HedgeChains x = new HedgeChains();
        check.due("count(-1)", x.count(-1), Calls.INVALID);
        for (int what = 0; what <= 17; what++) {
            check.due("count(" + what + ") tells a number", x.count(what) >= 0 ? 1 : 0, 1);
        }
        check.due("count(18)", x.count(18), Calls.INVALID);
        for (int what : Calls.BEYOND) {
            check.due("count(" + what + ")", x.count(what), Calls.INVALID);
        }
    }

    @Holds("0 the number of its chains, 1 of those that stand, 2 that are laid, 3 of gaps, 4 of planted ones")
    static void numbersOfChains(Check check) {
        String[] texts = {"t4*30", "l4*30", "g*30", "p*30", "t1", "l1", "g", "p", "t9*10l9*9g*6p*5"};
        int[][] due = {{30, 30, 0, 0, 0}, {30, 0, 30, 0, 0}, {30, 0, 0, 30, 0}, {30, 0, 0, 0, 30}, {1, 1, 0, 0, 0},
            {1, 0, 1, 0, 0}, {1, 0, 0, 1, 0}, {1, 0, 0, 0, 1}, {30, 10, 9, 6, 5}};
        for (int i = 0; i < due.length; i++) {
            HedgeChains x = Calls.with(4, texts[i]);
            for (int what = 0; what < 5; what++) {
                check.due("field(4, " + what + ") of " + texts[i], x.field(4, what), due[i][what]);
            }
        }
    }

    private static final String[] RUNS = {"g", "t1p", "l1", "l1*30", "gl1", "l1g", "l1gl1", "l1gl2*2", "l3*2gl4*2", "t1l1*3",
        "t1l1*3t1l1*3g", "l1*2pl1*3t5l1*2", "t1l1*2gl1*4pl1*4", "g*29l1", "l1*15t1l1*14", "t1*15l1*15", "l1*3gl1*2gl1"};

    @Holds("5 the length of the longest run of laid chains")
    static void longestRun(Check check) {
        int[] due = {0, 0, 1, 30, 1, 1, 1, 2, 2, 3, 3, 3, 4, 1, 15, 15, 3};
        for (int i = 0; i < RUNS.length; i++) {
            check.due("field(2, 5) of " + RUNS[i], Calls.with(2, RUNS[i]).field(2, 5), due[i]);
        }
        HedgeChains x = new HedgeChains();
        x.lay(2, 7, 3);
        check.due("up to the last chain", x.field(2, 5), 3);
        x.grub(2, 8);
        check.due("a gap ends it", x.field(2, 5), 1);
    }

    @Holds("6 where it begins (of several the first; NONE if none is laid)")
    static void whereTheRunBegins(Check check) {
        int[] due = {-9, -9, 0, 0, 1, 0, 0, 2, 0, 1, 1, 3, 4, 29, 0, 15, 0};
        for (int i = 0; i < RUNS.length; i++) {
            check.due("field(2, 6) of " + RUNS[i], Calls.with(2, RUNS[i]).field(2, 6), due[i]);
        }
        HedgeChains x = new HedgeChains();
        check.due("none is laid", x.field(2, 6), Calls.NONE);
        x.lay(2, 9, 1);
        check.due("the last chain", x.field(2, 6), 9);
        x.lay(2, 0, 1);
        check.due("of two the first", x.field(2, 6), 0);
    }

    @Holds("7 1 if it has a contract and 0 if not, 8 its price, 9 its last week, 10 its fine (8 to 10: NONE without a contract)")
    static void contractOfAField(Check check) {
        int[][] contracts = {{0, 0, 0}, {20, 100, 9}, {7, 3, 5}};
        for (int[] each : contracts) {
            HedgeChains x = new HedgeChains();
            x.pass(4);
            noContract(check, x);
            x.contract(1, each[0], each[1], each[2]);
            check.due("field(1, 7)", x.field(1, 7), 1);
            check.due("field(1, 8)", x.field(1, 8), each[0]);
            check.due("field(1, 9)", x.field(1, 9), 4 + each[1]);
            check.due("field(1, 10)", x.field(1, 10), each[2]);
            check.due("field(2, 7)", x.field(2, 7), 0);
            x.giveBack(1);
            noContract(check, x);
        }
    }

    private static void noContract(Check check, HedgeChains x) {
        check.due("field(1, 7)", x.field(1, 7), 0);
        for (int what = 8; what <= 10; what++) {
            check.due("field(1, " + what + ")", x.field(1, what), Calls.NONE);
        }
    }

    @Holds("Returns the value; INVALID_ARGUMENT if an argument is out of range.")
    static void whatFieldTells(Check check) {
        HedgeChains x = Calls.with(1, "l1t1");
        x.contract(1, 1, 1, 1);
        check.due("field(1, -1)", x.field(1, -1), Calls.INVALID);
        for (int what = 0; what <= 10; what++) {
            check.due("field(1, " + what + ") tells a value", x.field(1, what) >= 0 ? 1 : 0, 1);
        }
        check.due("field(1, 11)", x.field(1, 11), Calls.INVALID);
        for (int what : Calls.BEYOND) {
            check.due("field(1, " + what + ")", x.field(1, what), Calls.INVALID);
            check.due("field(" + what + ", 1)", x.field(what, 1), Calls.INVALID);
        }
        check.due("field(6, 0)", x.field(6, 0), Calls.INVALID);
        check.due("field(-1, 0)", x.field(-1, 0), Calls.INVALID);
    }

    @Holds("0 what it is (0 to 3), 1 its thickness, 2 its age (0 if it is not planted)")
    static void whatAChainIs(Check check) {
        HedgeChains x = Calls.with(3, "t9l1gp");
        x.pass(3);
        int[][] due = {{0, 9, 0}, {1, 1, 0}, {2, 0, 0}, {3, 0, 3}};
        for (int chain = 0; chain < 4; chain++) {
            for (int what = 0; what < 3; what++) {
                check.due("chain(3, " + chain + ", " + what + ")", x.chain(3, chain, what), due[chain][what]);
            }
        }
        x.grub(3, 3);
        check.due("age of a gap that was planted", x.chain(3, 3, 2), 0);
        x.plant(3, 3);
        check.due("age of one just planted", x.chain(3, 3, 2), 0);
        x.pass(5);
        check.due("age of the oldest", x.chain(3, 3, 2), 5);
        x.pass(1);
        check.due("age of one that stands", x.chain(3, 3, 2), 0);
    }

    @Holds("Returns the value; INVALID_ARGUMENT if there is no such field or chain, or what is out of range.")
    static void whatChainTells(Check check) {
        HedgeChains x = Calls.with(3, "p*7");
        x.pass(1);
        for (int what = 0; what <= 2; what++) {
            check.due("chain(3, 6, " + what + ") tells a value", x.chain(3, 6, what) >= 0 ? 1 : 0, 1);
            check.due("chain(3, 7, " + what + ")", x.chain(3, 7, what), Calls.INVALID);
            check.due("chain(3, -1, " + what + ")", x.chain(3, -1, what), Calls.INVALID);
            check.due("chain(6, 0, " + what + ")", x.chain(6, 0, what), Calls.INVALID);
            check.due("chain(-1, 0, " + what + ")", x.chain(-1, 0, what), Calls.INVALID);
        }
        check.due("chain(3, 0, -1)", x.chain(3, 0, -1), Calls.INVALID);
        check.due("chain(3, 0, 3)", x.chain(3, 0, 3), Calls.INVALID);
        for (int far : Calls.BEYOND) {
            check.due("chain(3, 0, " + far + ")", x.chain(3, 0, far), Calls.INVALID);
            check.due("chain(3, " + far + ", 0)", x.chain(3, far, 0), Calls.INVALID);
            check.due("chain(" + far + ", 0, 0)", x.chain(far, 0, 0), Calls.INVALID);
        }
    }
}
