/** The sentences on what could be: toLay, stakesIn, doneIn and bestOrder. */
public final class ForecastSentencesTest {
    public static void main(String[] args) throws Exception {
        Sentences.run(ForecastSentencesTest.class);
    }

    private static HedgeChains inWeek(int week, String text) {
        HedgeChains x = new HedgeChains();
        Calls.weeks(x, week);
        Calls.readHedge(x, 0, text);
        return x;
    }

    private static final String[] TEXTS = {"t1", "t2", "t9", "t9*30", "t2*30", "t1*30", "l9gp", "t1t2t3l4gpt5", "t4*10", "gt2gt9", "g", "p*30"};

    @Holds("Tells the work that it takes to lay all chains of a field that stand and are thick enough.")
    static void workToLayAll(Check check) {
        int[] due = {0, 2, 9, 270, 60, 0, 0, 10, 40, 11, 0, 0};
        for (int i = 0; i < TEXTS.length; i++) {
            check.due("toLay(3, 0) of " + TEXTS[i], Calls.with(3, TEXTS[i]).toLay(3, 0), due[i]);
        }
        HedgeChains x = inWeek(10, "t9");
        x.set(2, 1);
        check.due("closed weeks and strength are of no matter", x.toLay(0, 0), 9);
    }

    @Holds("0 for the work, 1 for the stakes")
    static void stakesToLayAll(Check check) {
        int[] due = {0, 2, 2, 60, 60, 0, 0, 6, 20, 4, 0, 0};
        for (int i = 0; i < TEXTS.length; i++) {
            check.due("toLay(3, 1) of " + TEXTS[i], Calls.with(3, TEXTS[i]).toLay(3, 1), due[i]);
        }
        HedgeChains x = new HedgeChains();
        for (int what : new int[] {-1, 2, 3}) {
            check.due("toLay(0, " + what + ")", x.toLay(0, what), Calls.INVALID);
        }
        for (int what : Calls.BEYOND) {
            check.due("toLay(0, " + what + ")", x.toLay(0, what), Calls.INVALID);
        }
    }

    @Holds("Returns the number; INVALID_ARGUMENT if an argument is out of range.")
    static void whatToLayAnswers(Check check) {
        HedgeChains x = new HedgeChains();
        check.due("toLay(5, 0)", x.toLay(5, 0), 40);
        check.due("toLay(5, 1)", x.toLay(5, 1), 20);
        check.due("toLay(6, 0)", x.toLay(6, 0), Calls.INVALID);
        check.due("toLay(-1, 1)", x.toLay(-1, 1), Calls.INVALID);
        check.due("toLay(6, 2)", x.toLay(6, 2), Calls.INVALID);
        for (int field : Calls.BEYOND) {
            check.due("toLay(" + field + ", 0)", x.toLay(field, 0), Calls.INVALID);
        }
        x.lay(5, 0, 4);
        check.due("toLay(5, 0) of those that are left", x.toLay(5, 0), 24);
    }

    @Holds("Tells the greatest number of stakes that could be cut out of a field, chain by chain as often as can be,")
    static void stakesOfAField(Check check) {
        int[] due = {0, 0, 3, 4, 8, 10, 15, 18, 24};
        for (int thickness = 1; thickness <= 9; thickness++) {
            check.due("stakesIn(0) of t" + thickness, Calls.with(0, "t" + thickness).stakesIn(0), due[thickness - 1]);
            check.due("stakesIn(0) of l" + thickness, Calls.with(0, "l" + thickness).stakesIn(0), 0);
        }
        check.due("stakesIn(0) of gaps and planted ones", Calls.with(0, "gp*3").stakesIn(0), 0);
        check.due("stakesIn(0) of 30 chains", Calls.with(0, "t9*30").stakesIn(0), 720);
        check.due("stakesIn(0) of several", Calls.with(0, "t9t8t2l9gpt3t1").stakesIn(0), 45);
        HedgeChains cut = Calls.with(0, "t9t6");
        int stakes = cut.stakesIn(0);
        int before = cut.count(4);
        for (int i = 0; i < 20; i++) {
            cut.cut(0, i % 2);
        }
        check.due("as many are cut", cut.count(4) - before, stakes);
        check.due("none is left", cut.stakesIn(0), 0);
    }

    @Holds("the closed weeks and the work being of no matter.")
    static void stakesAtAnyTime(Check check) {
        HedgeChains x = inWeek(10, "t9");
        check.due("closed", x.count(2), 1);
        check.due("stakesIn(0) in a closed week", x.stakesIn(0), 24);
        HedgeChains tired = Calls.with(0, "t9*2");
        tired.set(2, 1);
        tired.cut(0, 0);
        check.due("no work", tired.count(3), 0);
        check.due("stakesIn(0) without work", tired.stakesIn(0), 39);
        HedgeChains many = Calls.with(0, "t9*30");
        check.due("stakesIn(0) for more than all the work", many.stakesIn(0), 720);
    }

    @Holds("Returns the number; INVALID_ARGUMENT if field is out of range.")
    static void whatStakesInAnswers(Check check) {
        HedgeChains x = new HedgeChains();
        check.due("stakesIn(0)", x.stakesIn(0), 40);
        check.due("stakesIn(5)", x.stakesIn(5), 40);
        check.due("stakesIn(6)", x.stakesIn(6), Calls.INVALID);
        check.due("stakesIn(-1)", x.stakesIn(-1), Calls.INVALID);
        for (int field : Calls.BEYOND) {
            check.due("stakesIn(" + field + ")", x.stakesIn(field), Calls.INVALID);
        }
    }

    @Holds("if from this week on all work of each week that is not closed goes into laying its chains,")
    static void workOfOpenWeeks(Check check) {
        // 10 chains of the thickness 3 are just the work of a week.
        check.due("in the open week 0", inWeek(0, "t3*10").doneIn(0), 0);
        check.due("in the last open week", inWeek(9, "t3*10").doneIn(0), 0);
        check.due("two weeks, of which 21 closed ones part the second", inWeek(9, "t3*20").doneIn(0), 22);
        check.due("in the first closed week", inWeek(10, "t3*10").doneIn(0), 21);
        check.due("in the last closed week", inWeek(30, "t3*10").doneIn(0), 1);
        check.due("in the first open week behind them", inWeek(31, "t3*10").doneIn(0), 0);
        check.due("two weeks from week 8 on", inWeek(8, "t3*20").doneIn(0), 1);
        check.due("three weeks from week 8 on", inWeek(8, "t3*30").doneIn(0), 23);
        check.due("three weeks from week 51 on", inWeek(51, "t3*30").doneIn(0), 2);
        HedgeChains turn = new HedgeChains();
        turn.set(0, 51);
        turn.set(1, 0);
        turn.pass(50);
        Calls.readHedge(turn, 0, "t3*20");
        check.due("over the new year", turn.doneIn(0), 3);
    }

    @Holds("each that stands and is thick enough, one behind another from the first on, as many in a week as the work does for")
    static void oneBehindAnother(Check check) {
        check.due("t9*3t3", Calls.with(0, "t9*3t3").doneIn(0), 0);
        check.due("t9*3t4", Calls.with(0, "t9*3t4").doneIn(0), 1);
        check.due("t9*6t3, which do not fill a week", Calls.with(0, "t9*6t3").doneIn(0), 1);
        check.due("t9*6t4", Calls.with(0, "t9*6t4").doneIn(0), 2);
        check.due("a smaller one does not go ahead", Calls.with(0, "t9*3t4t3t9*2t8").doneIn(0), 2);
        check.due("in another order it is done earlier", Calls.with(0, "t9*3t3t4t9*2t8").doneIn(0), 1);
        check.due("those that are too thin are of no matter", Calls.with(0, "t1*10t9*3t1*10t3").doneIn(0), 0);
        check.due("nor are laid ones, gaps and planted ones", Calls.with(0, "l9*8g*3t9*3p*3l9t3").doneIn(0), 0);
        check.due("nor do they bring any work", Calls.with(0, "t9*3t1*5l9*5gpt4").doneIn(0), 1);
        check.due("t2*15", Calls.with(0, "t2*15").doneIn(0), 0);
        check.due("t2*16", Calls.with(0, "t2*16").doneIn(0), 1);
        HedgeChains slow = Calls.with(0, "t9*9");
        slow.set(2, 9);
        check.due("one in a week", slow.doneIn(0), 8);
        slow.set(2, 17);
        check.due("one in a week yet", slow.doneIn(0), 8);
        slow.set(2, 18);
        check.due("two in a week", slow.doneIn(0), 4);
        slow.set(2, 27);
        check.due("three in a week", slow.doneIn(0), 2);
        slow.set(2, 81);
        check.due("all in a week", slow.doneIn(0), 0);
    }

    @Holds("(the rest of it is lost; in this week the work that is left),")
    static void theRestIsLost(Check check) {
        check.due("2 of 30 are lost each week", Calls.with(0, "t7*20").doneIn(0), 4);
        check.due("140 of work would be 5 weeks", Calls.with(0, "t7*21").doneIn(0), 5);
        HedgeChains x = Calls.with(0, "t9*3");
        int[] due = {0, 0, 0, 0, 1};
        for (int used = 0; used < due.length; used++) {
            check.due("with " + (30 - used) + " left in this week", x.doneIn(0), due[used]);
            x.cut(1, used);
        }
        HedgeChains none = Calls.with(0, "t2");
        none.set(2, 4);
        none.lay(1, 0, 1);
        check.due("no work is left in this week", none.doneIn(0), 1);
        HedgeChains little = Calls.with(0, "t9t2");
        little.set(2, 10);
        little.cut(1, 0);
        little.cut(1, 1);
        check.due("8 are left, which are lost", little.doneIn(0), 2);
        HedgeChains part = Calls.with(0, "t2t9");
        part.set(2, 9);
        part.cut(1, 0);
        check.due("8 are left, of which 6 are lost", part.doneIn(0), 1);
    }

    @Holds("and stakes and growth are of no matter.")
    static void withoutStakesAndGrowth(Check check) {
        HedgeChains poor = Calls.with(0, "t2*15");
        poor.lay(1, 0, 5);
        poor.pass(1);
        check.due("stakes", poor.count(4), 0);
        check.due("doneIn(0) without stakes", poor.doneIn(0), 0);
        check.due("doneIn(0) of 30 chains", Calls.with(0, "t2*30").doneIn(0), 1);
        HedgeChains slow = Calls.with(0, "t8*20");
        slow.set(2, 8);
        slow.set(0, 51);
        slow.set(1, 51);
        check.due("they do not grow thicker than the strength", slow.doneIn(0), 19);
        check.due("a thin one does not become thick enough", Calls.with(0, "t1").doneIn(0), 0);
        check.due("a planted one does not come to stand", inWeek(10, "t9*3p").doneIn(0), 21);
    }

    @Holds("Returns the number of weeks that have to pass until the last one is laid, 0 if it can be done in this week, or there is"
            + " none;")
    static void whatDoneInAnswers(Check check) {
        check.due("it can be done in this week", Calls.with(0, "t9").doneIn(0), 0);
        for (String text : new String[] {"t1*30", "l9*30", "g", "p", "t1l2gp"}) {
            check.due("there is none in " + text, Calls.with(0, text).doneIn(0), 0);
            check.due("there is none in " + text + " in a closed week", inWeek(20, text).doneIn(0), 0);
            HedgeChains always = Calls.with(0, text);
            always.set(0, 0);
            always.set(1, 51);
            always.set(2, 1);
            check.due("there is none in " + text + " though all weeks are closed", always.doneIn(0), 0);
        }
    }

    @Holds("INVALID_ARGUMENT if field is out of range;")
    static void doneInOfNoField(Check check) {
        HedgeChains x = new HedgeChains();
        check.due("doneIn(0)", x.doneIn(0), 1);
        check.due("doneIn(5)", x.doneIn(5), 1);
        check.due("doneIn(-1)", x.doneIn(-1), Calls.INVALID);
        check.due("doneIn(6)", x.doneIn(6), Calls.INVALID);
        for (int field : Calls.BEYOND) {
            check.due("doneIn(" + field + ")", x.doneIn(field), Calls.INVALID);
        }
    }

    /** But one week of the year is open, so that a chain a year is laid: the first after as many weeks as told. */
    private static int doneInOpenWeek(int weeks, String text) {
        HedgeChains x = Calls.with(0, text);
        x.set(0, (weeks + 1) % 52);
        x.set(1, (weeks + 51) % 52);
        x.set(2, 9);
        return x.doneIn(0);
    }

    @Holds("NONE if it is not within 200 weeks, or")
    static void within200Weeks(Check check) {
        check.due("in 43 + 3 * 52 weeks", doneInOpenWeek(43, "t9*4"), 199);
        check.due("in 44 + 3 * 52 weeks", doneInOpenWeek(44, "t9*4"), 200);
        check.due("in 45 + 3 * 52 weeks", doneInOpenWeek(45, "t9*4"), Calls.NONE);
        check.due("in 46 + 3 * 52 weeks", doneInOpenWeek(46, "t9*4"), Calls.NONE);
        check.due("in 44 weeks", doneInOpenWeek(44, "t9"), 44);
        check.due("in 44 + 4 * 52 weeks", doneInOpenWeek(44, "t9*5"), Calls.NONE);
        check.due("in 51 + 2 * 52 weeks", doneInOpenWeek(51, "t9*3"), 155);
        HedgeChains always = new HedgeChains();
        always.set(0, 0);
        always.set(1, 51);
        check.due("if all weeks are closed", always.doneIn(0), Calls.NONE);
        HedgeChains late = inWeek(1000, "t9*4");
        check.due("behind week 1000, too", late.doneIn(0), 20);
        HedgeChains slow = Calls.with(0, "t2*30");
        slow.set(2, 2);
        check.due("one in a week, 21 closed", slow.doneIn(0), 50);
        HedgeChains year = inWeek(31, "t3*30");
        year.set(2, 3);
        check.due("one in a week, none closed", year.doneIn(0), 29);
    }

    @Holds("one of these chains is thicker than the strength.")
    static void thickerThanTheStrength(Check check) {
        for (int strength = 1; strength <= 9; strength++) {
            for (int thickness = 1; thickness <= 9; thickness++) {
                HedgeChains x = Calls.with(0, "t" + thickness);
                x.set(2, strength);
                int due = thickness == 1 || thickness <= strength ? 0 : Calls.NONE;
                check.due("t" + thickness + " with the strength " + strength, x.doneIn(0), due);
            }
        }
        HedgeChains last = Calls.with(0, "t2*20t5");
        last.set(2, 4);
        check.due("the last one alone", last.doneIn(0), Calls.NONE);
        last.set(2, 5);
        check.due("as thick as it", last.doneIn(0) >= 0 ? 1 : 0, 1);
        HedgeChains others = Calls.with(0, "l9t2gp");
        others.set(2, 2);
        check.due("laid ones are none of these", others.doneIn(0), 0);
        HedgeChains one = Calls.with(0, "t1");
        one.set(2, 1);
        check.due("nor are thin ones", one.doneIn(0), 0);
    }

    @Holds("Finds the order of the fields with contracts by which the fines are least, if they are done one behind another, each wholly,"
            + " before the next one is begun.")
    static void leastFines(Check check) {
        // 6, 3 and 2 weeks; the order 2, 1, 0 is done in 2, 5 and 11.
        HedgeChains x = threeFields();
        x.contract(0, 0, 6, 1);
        x.contract(1, 0, 3, 2);
        x.contract(2, 0, 2, 9);
        check.due("bestOrder(0)", x.bestOrder(0), 2 * 10 * 2 + 5 * 20);
        check.due("bestOrder(1)", x.bestOrder(1), 2);
        // The order 0, 1, 2 is done in 6, 9 and 11: neither the shortest nor the earliest one is first.
        HedgeChains dear = threeFields();
        dear.contract(0, 0, 6, 9);
        dear.contract(1, 0, 5, 2);
        dear.contract(2, 0, 4, 1);
        check.due("bestOrder(0)", dear.bestOrder(0), 2 * 10 * 4 + 10 * 7);
        check.due("bestOrder(1)", dear.bestOrder(1), 0);
        // 1 and 0 are in time if 2, which is late in any case, is the last one.
        HedgeChains late = threeFields();
        late.contract(0, 0, 9, 9);
        late.contract(1, 0, 3, 9);
        late.contract(2, 0, 0, 1);
        check.due("bestOrder(0)", late.bestOrder(0), 10 * 11);
        check.due("bestOrder(1)", late.bestOrder(1), 1);
        HedgeChains six = new HedgeChains();
        for (int field = 0; field < 6; field++) {
            six.contract(field, 0, 0, field + 3);
        }
        // Two weeks each, the dearest first.
        check.due("bestOrder(0) of all fields", six.bestOrder(0), 10 * (8 * 2 + 7 * 4 + 6 * 6 + 5 * 8 + 4 * 10 + 3 * 12));
        check.due("bestOrder(1) of all fields", six.bestOrder(1), 5);
        HedgeChains some = new HedgeChains();
        some.contract(1, 0, 0, 1);
        some.contract(4, 0, 0, 2);
        check.due("the others take no time", some.bestOrder(0), 10 * (2 * 2 + 4));
        some.giveBack(4);
        check.due("nor does one that was given back", some.bestOrder(0), 20);
        greatestFines(check);
    }

    /** The thickest and longest hedges, the least strength, the highest fines and the latest week that there can be. */
    private static void greatestFines(Check check) {
        HedgeChains x = new HedgeChains();
        for (int field = 0; field < 6; field++) {
            Calls.readHedge(x, field, "t9*30");
            x.contract(field, 0, 0, 9);
        }
        x.set(2, 1);
        Calls.weeks(x, 1000);
        check.due("the greatest fines that there can be", x.bestOrder(0), 270 * (6 * 1000 + 270 * (1 + 2 + 3 + 4 + 5 + 6)));
        check.due("the first field of six that are alike", x.bestOrder(1), 0);
    }

    /** Fields 0, 1 and 2 take 6, 3 and 2 weeks, and 20, 10 and 10 of their chains stand. */
    private static HedgeChains threeFields() {
        HedgeChains x = Calls.with(0, "t9*20");
        Calls.readHedge(x, 1, "t9*10");
        Calls.readHedge(x, 2, "t9*5t1*5");
        return x;
    }

    @Holds("a field takes as many weeks as its work (toLay) divided by the strength, rounded up;")
    static void weeksRoundedUp(Check check) {
        int[][] due = {{30, 1}, {29, 2}, {31, 1}, {15, 2}, {14, 3}, {10, 3}, {1, 30}, {100, 1}, {9, 4}};
        for (int[] each : due) {
            HedgeChains x = Calls.with(0, "t5*6l9t1gp");
            x.contract(0, 0, 0, 1);
            x.set(2, each[0]);
            check.due("weeks with the strength " + each[0], x.bestOrder(0), 7 * each[1]);
        }
        HedgeChains one = Calls.with(0, "t2");
        one.contract(0, 0, 0, 1);
        one.set(2, 100);
        check.due("a week for a little work", one.bestOrder(0), 1);
        HedgeChains none = Calls.with(0, "t1*10");
        none.contract(0, 0, 0, 5);
        check.due("no week for no work", none.bestOrder(0), 0);
        HedgeChains left = new HedgeChains();
        left.contract(0, 0, 0, 1);
        left.lay(1, 0, 5);
        check.due("the work that is left in this week is of no matter", left.bestOrder(0), 20);
        HedgeChains two = Calls.with(0, "t5*3");
        Calls.readHedge(two, 1, "t5*3");
        two.contract(0, 0, 0, 1);
        two.contract(1, 0, 0, 1);
        check.due("each field is rounded up by itself", two.bestOrder(0), 3 + 6);
    }

    @Holds("closed weeks and growth are of no matter;")
    static void orderInClosedWeeks(Check check) {
        HedgeChains x = inWeek(10, "t3*30");
        x.contract(0, 0, 0, 1);
        check.due("in a closed week", x.bestOrder(0), 90);
        x.set(0, 0);
        x.set(1, 51);
        check.due("though all weeks are closed", x.bestOrder(0), 90);
        HedgeChains slow = Calls.with(0, "t2*10pl1");
        slow.contract(0, 0, 0, 1);
        slow.set(2, 1);
        check.due("chains do not grow", slow.bestOrder(0), 200);
    }

    @Holds("it is done in the week that is the present one plus all weeks up to then;")
    static void presentWeekPlusAll(Check check) {
        for (int weeks = 0; weeks <= 4; weeks++) {
            HedgeChains x = inWeek(3, "t3*20");
            Calls.readHedge(x, 1, "t3*10");
            x.contract(0, 0, weeks, 9);
            x.contract(1, 0, weeks, 0);
            check.due("2 weeks, last week " + (3 + weeks), x.bestOrder(0), 20 * 9 * Math.max(2 - weeks, 0));
            HedgeChains both = inWeek(3, "t3*20");
            Calls.readHedge(both, 1, "t3*10");
            both.contract(0, 0, 2, 9);
            both.contract(1, 0, weeks, 1);
            check.due("1 week more, last week " + (3 + weeks), both.bestOrder(0), 10 * Math.max(3 - weeks, 0));
        }
        HedgeChains passing = Calls.with(0, "t1*10t9*3");
        passing.set(2, 100);
        passing.contract(0, 0, 3, 1);
        int[] due = {0, 0, 0, 13};
        for (int week = 0; week < due.length; week++) {
            check.due("in week " + week, passing.bestOrder(0), due[week]);
            passing.pass(1);
        }
    }

    @Holds("a field that is done behind its last week costs its fine, times its chains that stand now, for each week of delay.")
    static void fineForEachWeekOfDelay(Check check) {
        for (int weeks = 0; weeks <= 8; weeks++) {
            for (int fine : new int[] {0, 1, 9}) {
                HedgeChains x = Calls.with(0, "t9*20t1*2l5gp");
                x.contract(0, 0, weeks, fine);
                int delay = Math.max(6 - weeks, 0);
                check.due("last week " + weeks + ", fine " + fine, x.bestOrder(0), delay * fine * 22);
            }
        }
        HedgeChains thin = Calls.with(0, "t1*10");
        thin.contract(0, 0, 1, 5);
        thin.pass(1);
        check.due("in its last week", thin.bestOrder(0), 0);
        thin.pass(2);
        check.due("chains that are too thin stand, too", thin.bestOrder(0), 100);
        HedgeChains most = new HedgeChains();
        for (int field = 0; field < 6; field++) {
            Calls.readHedge(most, field, "t9*30");
            most.contract(field, 0, 0, 9);
        }
        most.set(2, 1);
        check.due("the greatest sum", most.bestOrder(0), 270 * 270 * (1 + 2 + 3 + 4 + 5 + 6));
    }

    @Holds("0 for the least sum of fines, 1 for the field that is first in such an order (of several orders that with the smaller fields"
            + " first, place by place)")
    static void theSmallerFieldsFirst(Check check) {
        HedgeChains x = new HedgeChains();
        for (int field = 5; field >= 0; field--) {
            x.contract(field, 0, 100, 1);
            check.due("no fines at all", x.bestOrder(0), 0);
            check.due("the smallest field", x.bestOrder(1), field);
        }
        for (int field = 0; field < 5; field++) {
            x.giveBack(field);
            check.due("the smallest field that is left", x.bestOrder(1), field + 1);
        }
        HedgeChains same = new HedgeChains();
        same.contract(5, 0, 2, 3);
        same.contract(2, 0, 2, 3);
        check.due("bestOrder(0) of two alike", same.bestOrder(0), 60);
        check.due("bestOrder(1) of two alike", same.bestOrder(1), 2);
        HedgeChains only = new HedgeChains();
        only.contract(2, 0, 4, 3);
        only.contract(5, 0, 2, 3);
        check.due("bestOrder(0) by one order alone", only.bestOrder(0), 0);
        check.due("bestOrder(1) by one order alone", only.bestOrder(1), 5);
        // 0 can be first, as it takes no time: 0, 2, 1.
        HedgeChains thin = Calls.with(0, "t1");
        thin.contract(0, 0, 0, 9);
        thin.contract(1, 0, 4, 9);
        thin.contract(2, 0, 2, 9);
        check.due("bestOrder(0)", thin.bestOrder(0), 0);
        check.due("bestOrder(1)", thin.bestOrder(1), 0);
    }

    @Holds("Returns the value; INVALID_ARGUMENT if what is out of range; NONE if there is no contract.")
    static void whatBestOrderAnswers(Check check) {
        HedgeChains x = new HedgeChains();
        for (int contracts = 0; contracts < 2; contracts++) {
            check.due("bestOrder(0)", x.bestOrder(0), contracts == 0 ? Calls.NONE : 20);
            check.due("bestOrder(1)", x.bestOrder(1), contracts == 0 ? Calls.NONE : 5);
            check.due("bestOrder(-1)", x.bestOrder(-1), Calls.INVALID);
            check.due("bestOrder(2)", x.bestOrder(2), Calls.INVALID);
            for (int what : Calls.BEYOND) {
                check.due("bestOrder(" + what + ")", x.bestOrder(what), Calls.INVALID);
            }
            x.contract(5, 0, 0, 1);
        }
        x.giveBack(5);
        check.due("bestOrder(0) without a contract again", x.bestOrder(0), Calls.NONE);
        check.due("bestOrder(1) without a contract again", x.bestOrder(1), Calls.NONE);
    }
}
