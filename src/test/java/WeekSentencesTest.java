/** The sentences on weeks, on what a week brings, and on what is set. */
public final class WeekSentencesTest {
    public static void main(String[] args) throws Exception {
        Sentences.run(WeekSentencesTest.class);
    }

    private static HedgeChains inWeek(int week) {
        HedgeChains x = new HedgeChains();
        Calls.weeks(x, week);
        return x;
    }

    @Holds("The present week is 0 at first")
    static void weekAtFirst(Check check) {
        check.due("count(0)", new HedgeChains().count(0), 0);
        check.due("count(1)", new HedgeChains().count(1), 0);
        check.due("take(0)", new HedgeChains().take(0), 0);
    }

    @Holds("its week of the year is it left over by 52.")
    static void weekOfTheYear(Check check) {
        int[][] due = {{1, 1}, {51, 51}, {52, 0}, {53, 1}, {103, 51}, {104, 0}, {105, 1}, {988, 0}, {999, 11}, {1000, 12}};
        for (int[] each : due) {
            check.due("count(1) in week " + each[0], inWeek(each[0]).count(1), each[1]);
        }
    }

    @Holds("The weeks of the year from a first to a last one (at first 10 to 30;")
    static void closedWeeks(Check check) {
        for (int week : new int[] {0, 9, 31, 51, 52, 61, 83, 104, 113, 135, 997}) {
            check.due("count(2) in week " + week, inWeek(week).count(2), 0);
        }
        for (int week : new int[] {10, 11, 29, 30, 62, 82, 114, 134, 998, 1000}) {
            check.due("count(2) in week " + week, inWeek(week).count(2), 1);
        }
        closedAre(check, 7, 7, 7, 7);
        closedAre(check, 0, 0, 0, 0);
        closedAre(check, 51, 51, 51, 51);
        closedAre(check, 0, 51, 0, 51);
        closedAre(check, 20, 40, 20, 40);
    }

    @Holds("if the first one is greater, those from it to 51 and from 0 to the last one) are closed.")
    static void closedWeeksOverTheNewYear(Check check) {
        closedAre(check, 50, 1, 50, 51, 0, 1);
        closedAre(check, 51, 0, 51, 51, 0, 0);
        closedAre(check, 40, 39, 0, 51);
        closedAre(check, 1, 0, 0, 51);
        closedAre(check, 51, 50, 0, 51);
        closedAre(check, 30, 10, 30, 51, 0, 10);
        closedAre(check, 49, 0, 49, 51, 0, 0);
        closedAre(check, 51, 2, 51, 51, 0, 2);
    }

    /** The bounds are pairs of weeks of the year, from which to which it is closed. */
    private static void closedAre(Check check, int first, int last, int... bounds) {
        HedgeChains x = new HedgeChains();
        x.set(0, first);
        x.set(1, last);
        for (int week = 0; week < 106; week++) {
            int due = 0;
            for (int pair = 0; pair < bounds.length; pair += 2) {
                due |= week % 52 >= bounds[pair] && week % 52 <= bounds[pair + 1] ? 1 : 0;
            }
            String when = " in week " + week + " of " + first + " to " + last;
            check.due("count(2)" + when, x.count(2), due);
            // No chain is cut more often than it grows.
            check.due("no cut" + when, x.cut(week % 6, week / 6 % 10) < 0 ? 1 : 0, due);
            x.pass(1);
        }
    }

    @Holds("The present week becomes greater by 1, and there is all the work again.")
    static void aWeekPasses(Check check) {
        HedgeChains x = new HedgeChains();
        x.lay(0, 0, 5);
        x.lay(1, 0, 1);
        for (int week = 1; week <= 60; week++) {
            x.cut(2, week % 10);
            x.pass(1);
            check.due("count(0)", x.count(0), week);
            check.due("count(3)", x.count(3), 30);
        }
        x.set(2, 77);
        x.grub(3, 0);
        x.plant(3, 0);
        x.pass(1);
        check.due("work by the new strength", x.count(3), 77);
        x.set(2, 1);
        x.pass(1);
        check.due("work by the new strength", x.count(3), 1);
    }

    @Holds("Each planted chain becomes older by a week; one that is 6 weeks old stands then, of the thickness 1.")
    static void plantedChainsGrow(Check check) {
        for (int begin = 0; begin < 8; begin++) {
            HedgeChains x = inWeek(begin);
            Calls.readHedge(x, 0, "g*2pt9");
            x.plant(0, 1);
            for (int age = 0; age <= 5; age++) {
                check.due("kind", x.chain(0, 1, 0), 3);
                check.due("age", x.chain(0, 1, 2), age);
                check.due("age of one that is read", x.chain(0, 2, 2), age);
                x.pass(1);
            }
            check.due("kind of one that is 6 weeks old", x.chain(0, 1, 0), 0);
            check.due("its thickness", x.chain(0, 1, 1), 1);
            check.due("its age", x.chain(0, 1, 2), 0);
            check.due("kind of one that is read", x.chain(0, 2, 0), 0);
            check.due("a gap is a gap", x.chain(0, 0, 0), 2);
            check.due("those that stand", x.field(0, 1), 3);
        }
        HedgeChains twice = Calls.with(0, "p");
        twice.pass(5);
        twice.grub(0, 0);
        twice.plant(0, 0);
        twice.pass(5);
        check.due("planted again, of the age 0", twice.chain(0, 0, 2), 5);
    }

    @Holds("If the present week is a multiple of 4, each chain that stood before becomes thicker by 1, up to 9;")
    static void standingChainsGrow(Check check) {
        HedgeChains x = Calls.with(0, "t1t7t8t9");
        for (int week = 1; week <= 40; week++) {
            x.pass(1);
            for (int chain = 0; chain < 4; chain++) {
                int first = chain == 0 ? 1 : 6 + chain;
                check.due("chain " + chain + " in week " + week, x.chain(0, chain, 1), Math.min(first + week / 4, 9));
            }
        }
        HedgeChains others = Calls.with(0, "l1gp");
        others.pass(4);
        check.due("a laid one", others.chain(0, 0, 1), 1);
        check.due("a gap", others.chain(0, 1, 1), 0);
        check.due("a planted one", others.chain(0, 2, 1), 0);
        for (int begin = 0; begin < 8; begin++) {
            HedgeChains young = inWeek(begin);
            Calls.readHedge(young, 0, "p");
            young.pass(6);
            check.due("one that did not stand before week " + (begin + 6), young.chain(0, 0, 1), 1);
            int more = 4 - (begin + 6) % 4;
            young.pass(more);
            check.due("it stood before week " + (begin + 6 + more), young.chain(0, 0, 1), 2);
        }
    }

    @Holds("if the present week is a multiple of 52, each laid chain becomes thicker by 2, and one that would be thicker than 9 by"
            + " it stands, of the thickness 9.")
    static void laidChainsGrow(Check check) {
        for (int week : new int[] {4, 48, 51, 52, 53, 56, 103, 104, 105, 156, 208, 260}) {
            HedgeChains x = Calls.with(0, "l1l2l3l4l5l6l7l8l9");
            Calls.weeks(x, week);
            for (int thickness = 1; thickness <= 9; thickness++) {
                int due = thickness + 2 * (week / 52);
                check.due("l" + thickness + " in week " + week, x.chain(0, thickness - 1, 1), Math.min(due, 9));
                check.due("its kind", x.chain(0, thickness - 1, 0), due > 9 ? 0 : 1);
            }
        }
        HedgeChains laid = new HedgeChains();
        laid.lay(0, 0, 1);
        Calls.weeks(laid, 51);
        check.due("in week 51", laid.chain(0, 0, 1), 4);
        laid.pass(1);
        check.due("in week 52", laid.chain(0, 0, 1), 6);
    }

    @Holds("For each field with a contract whose last week is less than the present week,")
    static void behindTheLastWeek(Check check) {
        for (int weeks : new int[] {0, 1, 2, 7, 99, 100}) {
            HedgeChains x = Calls.with(0, "t1");
            x.pass(3);
            x.contract(0, 0, weeks, 1);
            for (int passed = 1; passed <= weeks + 2; passed++) {
                check.due("week " + passed + " of " + weeks, x.pass(1), passed > weeks ? 1 : 0);
            }
            x.giveBack(0);
            check.due("without a contract", x.pass(1), 0);
        }
        HedgeChains all = new HedgeChains();
        for (int field = 0; field < 6; field++) {
            all.contract(field, 0, field, 1);
        }
        for (int passed = 1; passed <= 7; passed++) {
            check.due("of each field, in week " + passed, all.pass(1), 10 * Math.min(passed, 6));
        }
    }

    @Holds("its fine, times the chains of its hedge that stand, is due:")
    static void fineTimesStandingChains(Check check) {
        String[] texts = {"t1", "t1*30", "t9*30", "t1l1*9g*9p*9", "t9*3p", "t1t2gt3"};
        int[] standing = {1, 30, 30, 1, 3, 3};
        for (int i = 0; i < texts.length; i++) {
            for (int fine : new int[] {0, 1, 9}) {
                HedgeChains x = Calls.with(0, texts[i]);
                x.contract(0, 0, 0, fine);
                check.due("pass(1) of " + texts[i] + ", fine " + fine, x.pass(1), fine * standing[i]);
                check.due("fines that were due", x.count(8), fine * standing[i]);
            }
        }
        HedgeChains young = Calls.with(0, "t1p");
        young.contract(0, 0, 5, 7);
        check.due("until the planted one stands", young.pass(5), 0);
        check.due("one that stands in this very week", young.pass(1), 14);
        HedgeChains laid = Calls.with(0, "t1l9l7");
        laid.contract(0, 0, 51, 2);
        Calls.weeks(laid, 51);
        check.due("none before week 52", laid.count(8), 0);
        check.due("a laid one that stands in this very week", laid.pass(1), 4);
    }

    @Holds("it leaves the purse, as far as that goes; what it does not go for is a debt, which is added up.")
    static void purseAndDebt(Check check) {
        int[][] due = {{5, 1, 45, 0}, {10, 4, 10, 0}, {7, 7, 1, 0}, {10, 5, 0, 0}, {17, 3, 0, 1}, {30, 9, 0, 220}};
        for (int[] each : due) {
            HedgeChains x = Calls.with(0, "t1*" + each[0]);
            x.contract(0, 0, 0, each[1]);
            check.due("fines", x.pass(1), each[0] * each[1]);
            check.due("purse after " + each[0] * each[1], x.count(5), each[2]);
            check.due("debt after " + each[0] * each[1], x.count(6), each[3]);
        }
        HedgeChains x = Calls.with(0, "t1*8");
        x.contract(0, 0, 0, 9);
        for (int weeks = 1; weeks <= 5; weeks++) {
            x.pass(1);
            check.due("purse is empty", x.count(5), 0);
            check.due("debt is added up", x.count(6), 72 * weeks - 50);
        }
        x.contract(1, 20, 0, 0);
        x.lay(1, 0, 3);
        check.due("coins that come do not pay it", x.count(6), 310);
        check.due("purse", x.count(5), 60);
        x.pass(1);
        check.due("it leaves the purse first", x.count(5), 0);
        check.due("debt", x.count(6), 322);
    }

    @Holds("Lets weeks pass.")
    static void manyWeeksAreOneByOne(Check check) {
        for (int weeks : new int[] {1, 2, 3, 4, 5, 6, 7, 51, 52, 53, 60}) {
            HedgeChains atOnce = farm();
            HedgeChains oneByOne = farm();
            int due = 0;
            for (int i = 0; i < weeks; i++) {
                due += oneByOne.pass(1);
            }
            check.due("pass(" + weeks + ")", atOnce.pass(weeks), due);
            check.same("all after " + weeks + " weeks", Calls.wholeLand(atOnce), Calls.wholeLand(oneByOne));
        }
    }

    private static HedgeChains farm() {
        HedgeChains x = Calls.with(0, "t1t8p*3l3l8g*2");
        x.contract(0, 3, 4, 2);
        x.contract(1, 3, 50, 3);
        x.lay(1, 0, 2);
        x.plant(0, 7);
        return x;
    }

    @Holds("`weeks`: 1 to 60")
    static void oneToSixtyWeeks(Check check) {
        for (int weeks : new int[] {1, 2, 59, 60}) {
            HedgeChains x = new HedgeChains();
            check.due("pass(" + weeks + ")", x.pass(weeks), 0);
            check.due("week", x.count(0), weeks);
        }
        for (int weeks : new int[] {0, -1, 61, 62}) {
            HedgeChains x = new HedgeChains();
            check.due("pass(" + weeks + ")", x.pass(weeks), Calls.INVALID);
            check.due("week", x.count(0), 0);
        }
    }

    @Holds("INVALID_ARGUMENT if weeks is out of range;")
    static void weeksFarOutOfRange(Check check) {
        HedgeChains x = inWeek(1000);
        HedgeChains y = new HedgeChains();
        for (int weeks : Calls.BEYOND) {
            check.due("pass(" + weeks + ")", y.pass(weeks), Calls.INVALID);
            check.due("pass(" + weeks + ") in week 1000", x.pass(weeks), Calls.INVALID);
        }
    }

    @Holds("Returns the fines that are due in them, together;")
    static void finesTogether(Check check) {
        HedgeChains x = Calls.with(0, "t1*3");
        x.contract(0, 0, 2, 4);
        x.contract(1, 0, 4, 1);
        check.due("pass(1)", x.pass(1), 0);
        check.due("pass(6): five of 12 and three of 10", x.pass(6), 90);
        check.due("pass(60)", x.pass(60), 60 * 22);
        check.due("fines so far", x.count(8), 90 + 60 * 22);
        x.giveBack(0);
        x.giveBack(1);
        check.due("those of earlier weeks are not in them", x.pass(1), 0);
    }

    @Holds("CAPACITY_EXCEEDED if the present week would be above 1000.")
    static void notAboveWeek1000(Check check) {
        int[][] due = {{940, 60, 0}, {941, 60, -3}, {941, 59, 0}, {999, 1, 0}, {999, 2, -3}, {999, 60, -3}, {1000, 1, -3},
            {1000, 60, -3}, {960, 41, -3}, {960, 40, 0}};
        for (int[] each : due) {
            HedgeChains x = inWeek(each[0]);
            check.due("week", x.count(0), each[0]);
            check.due("pass(" + each[1] + ") in week " + each[0], x.pass(each[1]), each[2]);
            check.due("week then", x.count(0), each[2] == 0 ? each[0] + each[1] : each[0]);
        }
        HedgeChains last = inWeek(1000);
        last.undo();
        check.due("undo() makes room", last.pass(1), 0);
    }

    @Holds("0 for the first closed week of the year (0 to 51), 1 for the last one (0 to 51), 2 for the strength (1 to 100;")
    static void whatCanBeSet(Check check) {
        int[] least = {0, 0, 1};
        int[] greatest = {51, 51, 100};
        for (int what = 0; what < 3; what++) {
            HedgeChains x = new HedgeChains();
            for (int value : new int[] {least[what], least[what] + 1, greatest[what] - 1, greatest[what]}) {
                x.set(what, value);
                check.due("what set(" + what + ", " + value + ") sets", x.count(12 + what), value);
            }
            for (int value : new int[] {least[what] - 1, greatest[what] + 1, greatest[what] + 2}) {
                check.due("set(" + what + ", " + value + ")", x.set(what, value), Calls.INVALID);
                check.due("what was set", x.count(12 + what), greatest[what]);
            }
            for (int value : Calls.BEYOND) {
                check.due("set(" + what + ", " + value + ")", x.set(what, value), Calls.INVALID);
            }
        }
        HedgeChains both = new HedgeChains();
        both.set(0, 5);
        check.due("the last closed week is as before", both.count(13), 30);
        both.set(1, 4);
        check.due("the first closed week is as before", both.count(12), 5);
        check.due("work is as before", both.count(3), 30);
        check.due("set(-1, 1)", both.set(-1, 1), Calls.INVALID);
        check.due("set(3, 1)", both.set(3, 1), Calls.INVALID);
    }

    @Holds("the work that is left in this week becomes greater or less by as much, but is at least 0)")
    static void workByTheNewStrength(Check check) {
        int[][] due = {{30, 10}, {31, 11}, {29, 9}, {21, 1}, {20, 0}, {19, 0}, {1, 0}, {100, 80}};
        for (int[] each : due) {
            HedgeChains x = new HedgeChains();
            x.lay(0, 0, 5);
            x.set(2, each[0]);
            check.due("work after set(2, " + each[0] + ")", x.count(3), each[1]);
        }
        HedgeChains again = new HedgeChains();
        again.lay(0, 0, 5);
        again.set(2, 5);
        check.due("at least 0", again.count(3), 0);
        again.set(2, 4);
        check.due("at least 0 yet", again.count(3), 0);
        again.set(2, 7);
        check.due("greater by 3, from 0", again.count(3), 3);
        for (int stakes = 4; stakes <= 12; stakes += 4) {
            check.due("it can be used", again.cut(1, stakes / 4), stakes);
        }
        check.due("no more", again.cut(1, 4), Calls.ILLEGAL);
        again.pass(1);
        check.due("all the work again", again.count(3), 7);
        HedgeChains full = new HedgeChains();
        full.set(2, 1);
        check.due("1 of 1", full.count(3), 1);
        full.set(2, 100);
        check.due("100 of 100", full.count(3), 100);
        full.set(0, 0);
        full.set(1, 51);
        check.due("closed weeks are of no matter", full.count(3), 100);
    }

    @Holds("`value`: the new number")
    static void theNewNumber(Check check) {
        HedgeChains x = new HedgeChains();
        for (int value = 0; value <= 51; value++) {
            x.set(0, value);
            x.set(1, 51 - value);
            x.set(2, value + 1);
            check.due("first closed week", x.count(12), value);
            check.due("last closed week", x.count(13), 51 - value);
            check.due("strength", x.count(14), value + 1);
        }
        x.undo();
        check.due("strength before the last one", x.count(14), 51);
    }

    @Holds("Returns the previous number; INVALID_ARGUMENT if an argument is out of range.")
    static void previousNumber(Check check) {
        HedgeChains x = new HedgeChains();
        int[] previous = {10, 30, 30};
        int[][] sets = {{0, 0}, {1, 51}, {2, 100}, {0, 51}, {1, 0}, {2, 1}, {2, 1}, {0, 51}, {1, 3}};
        for (int[] each : sets) {
            check.due("set(" + each[0] + ", " + each[1] + ")", x.set(each[0], each[1]), previous[each[0]]);
            previous[each[0]] = each[1];
        }
        for (int what : Calls.BEYOND) {
            check.due("set(" + what + ", 1)", x.set(what, 1), Calls.INVALID);
        }
        check.due("set(-1, 1)", x.set(-1, 1), Calls.INVALID);
        check.due("set(3, 1)", x.set(3, 1), Calls.INVALID);
        check.due("set(0, 52)", x.set(0, 52), Calls.INVALID);
        check.due("set(1, -1)", x.set(1, -1), Calls.INVALID);
        check.due("set(2, 0)", x.set(2, 0), Calls.INVALID);
    }
}
