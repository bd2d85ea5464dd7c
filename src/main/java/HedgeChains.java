/** Hedges that are laid chain by chain; the project's document says what each method answers. */
public final class HedgeChains {
    public static final int INVALID_ARGUMENT = -1;
    public static final int ILLEGAL_STATE = -2;
    public static final int CAPACITY_EXCEEDED = -3;
    public static final int NONE = -9;

    private static final int FIELDS = 6;
    private static final int SLOTS = 2;
    private static final int MOST_CHAINS = 30;
    private static final int MOST_STATES = 5;
    private static final int MOST_CHARACTERS = 80;

    private static final int STANDS = 0;
    private static final int LAID = 1;
    private static final int GAP = 2;
    private static final int PLANTED = 3;
    private static final int NO_CHAIN = -1;

    private static final int THICKEST = 9;
    private static final int THICK_TO_LAY = 2;
    private static final int THICK_TO_CUT = 3;
    private static final int THINNER_BY_CUT = 2;
    private static final int STAKES_TO_LAY = 2;
    private static final int WORK_TO_CUT = 1;
    private static final int WORK_TO_PLANT = 2;
    private static final int COINS_TO_PLANT = 3;

    private static final int YEAR = 52;
    private static final int WEEKS_TO_THICKEN = 4;
    private static final int WEEKS_TO_STAND = 6;
    private static final int LAST_WEEK = 1000;
    private static final int MOST_WEEKS_TO_PASS = 60;
    private static final int MOST_WEEKS_FORECAST = 200;
    private static final int GREATEST_STRENGTH = 100;

    private static final int HIGHEST_PRICE = 20;
    private static final int LONGEST_CONTRACT = 100;
    private static final int HIGHEST_FINE = 9;
    private static final int FINES_TO_GIVE_BACK = 5;
    // Six fields of 30 chains, at the highest fine, cannot be so late that it comes to as much.
    private static final int MORE_THAN_ALL_FINES = 1_000_000_000;

    private static final int GREATEST_CHARACTER = 255;
    private static final int NO_FAULT = -1;
    private static final int FAULT_BASE = -1000;

    private final State state;
    private final Land land;
    private final History history;
    private final Text text;
    private final HedgeReader reader;
    private final Orders orders;

    public HedgeChains() {
        state = new State();
        land = state.land;
        history = new History();
        text = new Text();
        reader = new HedgeReader();
        orders = new Orders();
    }

    // ---- work

    public int lay(int field, int from, int many) {
        if (!isChain(field, from) || !isWithin(many, 1, MOST_CHAINS)) {
            return INVALID_ARGUMENT;
        }
        if (land.isClosed(land.week) || !land.canLay(field, from)) {
            return ILLEGAL_STATE;
        }
        history.keep(state);
        int laid = 0;
        while (laid < many && land.canLay(field, from + laid)) {
            land.layChain(field, from + laid);
            laid++;
        }
        return laid;
    }

    public int cut(int field, int chain) {
        if (!isChain(field, chain)) {
            return INVALID_ARGUMENT;
        }
        if (land.isClosed(land.week) || !land.canCut(field, chain)) {
            return ILLEGAL_STATE;
        }
        history.keep(state);
        land.cutChain(field, chain);
        return land.stakes;
    }

    public int plant(int field, int chain) {
        if (!isChain(field, chain)) {
            return INVALID_ARGUMENT;
        }
        if (!land.canPlant(field, chain)) {
            return ILLEGAL_STATE;
        }
        history.keep(state);
        land.plantChain(field, chain);
        return land.work;
    }

    public int grub(int field, int chain) {
        if (!isChain(field, chain)) {
            return INVALID_ARGUMENT;
        }
        int kind = land.hedges[field].kindOf(chain);
        if (kind == GAP) {
            return ILLEGAL_STATE;
        }
        history.keep(state);
        land.grubChain(field, chain);
        return kind;
    }

    public int pass(int weeks) {
        if (!isWithin(weeks, 1, MOST_WEEKS_TO_PASS)) {
            return INVALID_ARGUMENT;
        }
        if (land.week + weeks > LAST_WEEK) {
            return CAPACITY_EXCEEDED;
        }
        history.keep(state);
        int due = 0;
        for (int passed = 0; passed < weeks; passed++) {
            due += land.passWeek();
        }
        return due;
    }

    public int set(int what, int value) {
        if (!canBeSet(what, value)) {
            return INVALID_ARGUMENT;
        }
        history.keep(state);
        int previous = land.settingOf(what);
        land.changeSetting(what, value);
        return previous;
    }

    // ---- contracts, coins

    public int contract(int field, int price, int weeks, int fine) {
        if (!isField(field) || !isWithin(price, 0, HIGHEST_PRICE)
                || !isWithin(weeks, 0, LONGEST_CONTRACT) || !isWithin(fine, 0, HIGHEST_FINE)) {
            return INVALID_ARGUMENT;
        }
        int standing = land.hedges[field].numberOf(STANDS);
        if (land.contracts[field].made || standing == 0) {
            return ILLEGAL_STATE;
        }
        history.keep(state);
        land.contracts[field].make(price, land.week + weeks, fine);
        return standing;
    }

    public int giveBack(int field) {
        if (!isField(field)) {
            return INVALID_ARGUMENT;
        }
        Contract given = land.contracts[field];
        if (!given.made) {
            return ILLEGAL_STATE;
        }
        history.keep(state);
        int cost = FINES_TO_GIVE_BACK * given.fine;
        land.spend(cost);
        given.made = false;
        return cost;
    }

    public int payDebt() {
        int paid = Math.min(land.purse, land.debt);
        if (paid == 0) {
            return ILLEGAL_STATE;
        }
        history.keep(state);
        land.purse -= paid;
        land.debt -= paid;
        return paid;
    }

    // ---- snapshots

    public int take(int slot) {
        if (!isSlot(slot)) {
            return INVALID_ARGUMENT;
        }
        history.keep(state);
        state.fillSlot(slot);
        return land.week;
    }

    public int restore(int slot) {
        if (!isSlot(slot)) {
            return INVALID_ARGUMENT;
        }
        if (!state.filled[slot]) {
            return ILLEGAL_STATE;
        }
        history.keep(state);
        land.copyFrom(state.slots[slot]);
        return land.week;
    }

    public int undo() {
        if (history.kept == 0) {
            return ILLEGAL_STATE;
        }
        history.bringBack(state);
        return history.kept;
    }

    // ---- text

    public int append(int character) {
        if (!isWithin(character, 1, GREATEST_CHARACTER)) {
            return INVALID_ARGUMENT;
        }
        if (text.length >= MOST_CHARACTERS) {
            return CAPACITY_EXCEEDED;
        }
        text.addSign((char) character);
        return text.length;
    }

    public int clearText() {
        int previous = text.length;
        text.length = 0;
        return previous;
    }

    public int read(int field) {
        if (!isField(field)) {
            return INVALID_ARGUMENT;
        }
        int fault = reader.faultOf(text);
        if (fault != NO_FAULT) {
            return FAULT_BASE - fault;
        }
        if (reader.told > MOST_CHAINS) {
            return CAPACITY_EXCEEDED;
        }
        history.keep(state);
        land.replaceHedge(field, reader.hedge);
        text.length = 0;
        return land.hedges[field].length;
    }

    // ---- looking

    public int count(int what) {
        switch (what) {
            case 0: return land.week;
            case 1: return land.week % YEAR;
            case 2: return land.isClosed(land.week) ? 1 : 0;
            case 3: return land.work;
            case 4: return land.stakes;
            case 5: return land.purse;
            case 6: return land.debt;
            case 7: return land.earned;
            case 8: return land.fined;
            case 9: return land.numberOfContracts();
            case 10: return land.laid;
            case 11: return land.planted;
            case 12: return land.settingOf(0);
            case 13: return land.settingOf(1);
            case 14: return land.settingOf(2);
            case 15: return state.numberOfSnapshots();
            case 16: return history.kept;
            case 17: return text.length;
            default: return INVALID_ARGUMENT;
        }
    }

    public int field(int field, int what) {
        if (!isField(field)) {
            return INVALID_ARGUMENT;
        }
        Hedge hedge = land.hedges[field];
        Contract contract = land.contracts[field];
        switch (what) {
            case 0: return hedge.length;
            case 1: return hedge.numberOf(STANDS);
            case 2: return hedge.numberOf(LAID);
            case 3: return hedge.numberOf(GAP);
            case 4: return hedge.numberOf(PLANTED);
            case 5: return hedge.runFrom(hedge.longestRunBegin());
            case 6: return hedge.longestRunBegin();
            case 7: return contract.made ? 1 : 0;
            case 8: return contract.made ? contract.price : NONE;
            case 9: return contract.made ? contract.lastWeek : NONE;
            case 10: return contract.made ? contract.fine : NONE;
            default: return INVALID_ARGUMENT;
        }
    }

    public int chain(int field, int chain, int what) {
        if (!isChain(field, chain)) {
            return INVALID_ARGUMENT;
        }
        Hedge hedge = land.hedges[field];
        switch (what) {
            case 0: return hedge.kindOf(chain);
            case 1: return hedge.thicknessOf(chain);
            case 2: return hedge.ageOf(chain);
            default: return INVALID_ARGUMENT;
        }
    }

    // ---- what could be, which changes nothing

    public int toLay(int field, int what) {
        if (!isField(field) || !isWithin(what, 0, 1)) {
            return INVALID_ARGUMENT;
        }
        Hedge hedge = land.hedges[field];
        return what == 0 ? hedge.workToLay() : hedge.stakesToLay();
    }

    public int stakesIn(int field) {
        return isField(field) ? land.hedges[field].stakesToCut() : INVALID_ARGUMENT;
    }

    public int doneIn(int field) {
        return isField(field) ? land.weeksUntilLaid(field) : INVALID_ARGUMENT;
    }

    public int bestOrder(int what) {
        if (!isWithin(what, 0, 1)) {
            return INVALID_ARGUMENT;
        }
        if (land.numberOfContracts() == 0) {
            return NONE;
        }
        orders.reckon(land);
        return what == 0 ? orders.leastFines() : orders.firstField();
    }

    // ---- arguments

    private static boolean isWithin(int value, int least, int greatest) {
        return value >= least && value <= greatest;
    }

    private static boolean isField(int field) {
        return isWithin(field, 0, FIELDS - 1);
    }

    private static boolean isSlot(int slot) {
        return isWithin(slot, 0, SLOTS - 1);
    }

    private boolean isChain(int field, int chain) {
        return isField(field) && land.hedges[field].has(chain);
    }

    private static boolean canBeSet(int what, int value) {
        switch (what) {
            case 0: return isWithin(value, 0, YEAR - 1);
            case 1: return isWithin(value, 0, YEAR - 1);
            case 2: return isWithin(value, 1, GREATEST_STRENGTH);
            default: return false;
        }
    }

    /** The chains of one field. */
    private static final class Hedge {
        private final int[] kinds;
        private final int[] thicknesses;
        private final int[] ages;
        private int length;

        private Hedge() {
            kinds = new int[MOST_CHAINS];
            thicknesses = new int[MOST_CHAINS];
            ages = new int[MOST_CHAINS];
            length = 0;
        }

        private void copyFrom(Hedge other) {
            System.arraycopy(other.kinds, 0, kinds, 0, MOST_CHAINS);
            System.arraycopy(other.thicknesses, 0, thicknesses, 0, MOST_CHAINS);
            System.arraycopy(other.ages, 0, ages, 0, MOST_CHAINS);
            length = other.length;
        }

        /** Chains for which there is no room are left out: who reads a text counts them for himself. */
        private void addChains(int kind, int thickness, int many) {
            for (int added = 0; added < many && length < MOST_CHAINS; added++) {
                length++;
                changeChain(length - 1, kind, thickness);
            }
        }

        private void changeChain(int chain, int kind, int thickness) {
            if (has(chain)) {
                kinds[chain] = kind;
                thicknesses[chain] = thickness;
                ages[chain] = 0;
            }
        }

        private boolean has(int chain) {
            return chain >= 0 && chain < length;
        }

        private int kindOf(int chain) {
            return has(chain) ? kinds[chain] : NO_CHAIN;
        }

        private int thicknessOf(int chain) {
            return has(chain) ? thicknesses[chain] : 0;
        }

        private int ageOf(int chain) {
            return has(chain) ? ages[chain] : 0;
        }

        private boolean isToLay(int chain) {
            return has(chain) && kinds[chain] == STANDS && thicknesses[chain] >= THICK_TO_LAY;
        }

        private boolean isToCut(int chain) {
            return has(chain) && kinds[chain] == STANDS && thicknesses[chain] >= THICK_TO_CUT;
        }

        private int numberOf(int kind) {
            int number = 0;
            for (int chain = 0; chain < length; chain++) {
                if (kindOf(chain) == kind) {
                    number++;
                }
            }
            return number;
        }

        private int longestRunBegin() {
            int begin = NONE;
            int longest = 0;
            for (int chain = 0; chain < length; chain++) {
                int run = runFrom(chain);
                if (run > longest) {
                    longest = run;
                    begin = chain;
                }
            }
            return begin;
        }

        private int runFrom(int begin) {
            int run = 0;
            while (run < length && kindOf(begin + run) == LAID) {
                run++;
            }
            return run;
        }

        /** Each chain is looked at once, by what it was before: one that comes to stand does not grow at once. */
        private void grow(int week) {
            for (int chain = 0; chain < length; chain++) {
                int kind = kindOf(chain);
                if (kind == PLANTED) {
                    growOlder(chain);
                } else if (kind == STANDS && week % WEEKS_TO_THICKEN == 0) {
                    changeChain(chain, STANDS, Math.min(thicknessOf(chain) + 1, THICKEST));
                } else if (kind == LAID && week % YEAR == 0) {
                    growLaid(chain);
                }
            }
        }

        private void growOlder(int chain) {
            if (ageOf(chain) + 1 >= WEEKS_TO_STAND) {
                changeChain(chain, STANDS, 1);
            } else if (has(chain)) {
                ages[chain]++;
            }
        }

        private void growLaid(int chain) {
            int thickness = thicknessOf(chain) + 2;
            if (thickness > THICKEST) {
                changeChain(chain, STANDS, THICKEST);
            } else {
                changeChain(chain, LAID, thickness);
            }
        }

        private int workToLay() {
            int work = 0;
            for (int chain = 0; chain < length; chain++) {
                if (isToLay(chain)) {
                    work += thicknessOf(chain);
                }
            }
            return work;
        }

        private int stakesToLay() {
            int stakes = 0;
            for (int chain = 0; chain < length; chain++) {
                if (isToLay(chain)) {
                    stakes += STAKES_TO_LAY;
                }
            }
            return stakes;
        }

        private int stakesToCut() {
            int stakes = 0;
            for (int chain = 0; chain < length; chain++) {
                if (kindOf(chain) == STANDS) {
                    stakes += stakesOf(thicknessOf(chain));
                }
            }
            return stakes;
        }

        private static int stakesOf(int thickness) {
            int stakes = 0;
            for (int left = thickness; left >= THICK_TO_CUT; left -= THINNER_BY_CUT) {
                stakes += left;
            }
            return stakes;
        }
    }

    /** What is agreed for one field, as far as a contract is made for it. */
    private static final class Contract {
        private boolean made;
        private int price;
        private int lastWeek;
        private int fine;

        private Contract() {
            made = false;
        }

        private void copyFrom(Contract other) {
            made = other.made;
            price = other.price;
            lastWeek = other.lastWeek;
            fine = other.fine;
        }

        private void make(int newPrice, int newLastWeek, int newFine) {
            made = true;
            price = newPrice;
            lastWeek = newLastWeek;
            fine = newFine;
        }
    }

    /** What a snapshot keeps: everything but the text, the slots and the history. */
    private static final class Land {
        private final Hedge[] hedges;
        private final Contract[] contracts;
        private int week;
        private int firstClosed;
        private int lastClosed;
        private int strength;
        private int work;
        private int stakes;
        private int purse;
        private int debt;
        private int earned;
        private int fined;
        private int laid;
        private int planted;

        private Land() {
            hedges = new Hedge[FIELDS];
            contracts = new Contract[FIELDS];
            for (int field = 0; field < FIELDS; field++) {
                hedges[field] = new Hedge();
                hedges[field].addChains(STANDS, 4, 10);
                contracts[field] = new Contract();
            }
            firstClosed = 10;
            lastClosed = 30;
            strength = 30;
            work = 30;
            stakes = 10;
            purse = 50;
        }

        private void copyFrom(Land other) {
            for (int field = 0; field < FIELDS; field++) {
                hedges[field].copyFrom(other.hedges[field]);
                contracts[field].copyFrom(other.contracts[field]);
            }
            week = other.week;
            firstClosed = other.firstClosed;
            lastClosed = other.lastClosed;
            strength = other.strength;
            work = other.work;
            stakes = other.stakes;
            purse = other.purse;
            debt = other.debt;
            earned = other.earned;
            fined = other.fined;
            laid = other.laid;
            planted = other.planted;
        }

        private boolean isClosed(int inWeek) {
            int weekOfYear = inWeek % YEAR;
            if (firstClosed > lastClosed) {
                return weekOfYear >= firstClosed || weekOfYear <= lastClosed;
            }
            return weekOfYear >= firstClosed && weekOfYear <= lastClosed;
        }

        private boolean canLay(int field, int chain) {
            Hedge hedge = hedges[field];
            return hedge.isToLay(chain) && work >= hedge.thicknessOf(chain) && stakes >= STAKES_TO_LAY;
        }

        private void layChain(int field, int chain) {
            Hedge hedge = hedges[field];
            int thickness = hedge.thicknessOf(chain);
            work -= thickness;
            stakes -= STAKES_TO_LAY;
            hedge.changeChain(chain, LAID, thickness);
            laid++;
            if (contracts[field].made) {
                purse += contracts[field].price;
                earned += contracts[field].price;
            }
            endContractIfNoneStands(field);
        }

        private boolean canCut(int field, int chain) {
            return hedges[field].isToCut(chain) && work >= WORK_TO_CUT;
        }

        private void cutChain(int field, int chain) {
            int thickness = hedges[field].thicknessOf(chain);
            work -= WORK_TO_CUT;
            stakes += thickness;
            hedges[field].changeChain(chain, STANDS, thickness - THINNER_BY_CUT);
        }

        private boolean canPlant(int field, int chain) {
            return hedges[field].kindOf(chain) == GAP && work >= WORK_TO_PLANT && purse >= COINS_TO_PLANT;
        }

        private void plantChain(int field, int chain) {
            work -= WORK_TO_PLANT;
            purse -= COINS_TO_PLANT;
            hedges[field].changeChain(chain, PLANTED, 0);
            planted++;
        }

        private void grubChain(int field, int chain) {
            hedges[field].changeChain(chain, GAP, 0);
            endContractIfNoneStands(field);
        }

        private void replaceHedge(int field, Hedge hedge) {
            hedges[field].copyFrom(hedge);
            endContractIfNoneStands(field);
        }

        private void endContractIfNoneStands(int field) {
            if (hedges[field].numberOf(STANDS) == 0) {
                contracts[field].made = false;
            }
        }

        private int numberOfContracts() {
            int number = 0;
            for (int field = 0; field < FIELDS; field++) {
                if (contracts[field].made) {
                    number++;
                }
            }
            return number;
        }

        private int passWeek() {
            week++;
            work = strength;
            for (int field = 0; field < FIELDS; field++) {
                hedges[field].grow(week);
            }
            int due = finesDue();
            fined += due;
            spend(due);
            return due;
        }

        private int finesDue() {
            int due = 0;
            for (int field = 0; field < FIELDS; field++) {
                if (contracts[field].made && contracts[field].lastWeek < week) {
                    due += finePerWeek(field);
                }
            }
            return due;
        }

        private int finePerWeek(int field) {
            return contracts[field].fine * hedges[field].numberOf(STANDS);
        }

        private void spend(int coins) {
            int paid = Math.min(purse, coins);
            purse -= paid;
            debt += coins - paid;
        }

        private int settingOf(int what) {
            switch (what) {
                case 0: return firstClosed;
                case 1: return lastClosed;
                default: return strength;
            }
        }

        private void changeSetting(int what, int value) {
            switch (what) {
                case 0:
                    firstClosed = value;
                    break;
                case 1:
                    lastClosed = value;
                    break;
                default:
                    work = Math.max(work + value - strength, 0);
                    strength = value;
                    break;
            }
        }

        /** No week has more work than the strength, so that a chain thicker than that waits for ever. */
        private int weeksUntilLaid(int field) {
            Hedge hedge = hedges[field];
            int passed = 0;
            int left = workAfter(0);
            for (int chain = 0; chain < hedge.length; chain++) {
                int needed = hedge.isToLay(chain) ? hedge.thicknessOf(chain) : 0;
                while (left < needed && passed < MOST_WEEKS_FORECAST) {
                    passed++;
                    left = workAfter(passed);
                }
                if (left < needed) {
                    return NONE;
                }
                left -= needed;
            }
            return passed;
        }

        private int workAfter(int passed) {
            if (isClosed(week + passed)) {
                return 0;
            }
            return passed == 0 ? work : strength;
        }

        private int weeksOfWork(int field) {
            return (hedges[field].workToLay() + strength - 1) / Math.max(strength, 1);
        }
    }

    /** What undo brings back: everything but the text and the history. */
    private static final class State {
        private final Land land;
        private final Land[] slots;
        private final boolean[] filled;

        private State() {
            land = new Land();
            slots = new Land[SLOTS];
            filled = new boolean[SLOTS];
            for (int slot = 0; slot < SLOTS; slot++) {
                slots[slot] = new Land();
            }
        }

        private void copyFrom(State other) {
            land.copyFrom(other.land);
            for (int slot = 0; slot < SLOTS; slot++) {
                filled[slot] = other.filled[slot];
                if (filled[slot]) {
                    slots[slot].copyFrom(other.slots[slot]);
                }
            }
        }

        private void fillSlot(int slot) {
            slots[slot].copyFrom(land);
            filled[slot] = true;
        }

        private int numberOfSnapshots() {
            int number = 0;
            for (int slot = 0; slot < SLOTS; slot++) {
                if (filled[slot]) {
                    number++;
                }
            }
            return number;
        }
    }

    /** The latest states, in a ring that is made once: a state that is dropped gives its place to the new one. */
    private static final class History {
        private final State[] states;
        private int next;
        private int kept;

        private History() {
            states = new State[MOST_STATES];
            for (int place = 0; place < MOST_STATES; place++) {
                states[place] = new State();
            }
            next = 0;
            kept = 0;
        }

        private void keep(State state) {
            states[next].copyFrom(state);
            next = (next + 1) % MOST_STATES;
            kept = Math.min(kept + 1, MOST_STATES);
        }

        private void bringBack(State state) {
            if (kept > 0) {
                next = (next + MOST_STATES - 1) % MOST_STATES;
                kept--;
                state.copyFrom(states[next]);
            }
        }
    }

    /** The characters that were appended. */
    private static final class Text {
        private final char[] signs;
        private int length;

        private Text() {
            signs = new char[MOST_CHARACTERS];
            length = 0;
        }

        private void addSign(char sign) {
            if (length < MOST_CHARACTERS) {
                signs[length] = sign;
                length++;
            }
        }

        /** The character 0, which no text holds, stands for the end. */
        private char signAt(int index) {
            return index >= 0 && index < length ? signs[index] : 0;
        }
    }

    /** Reads a text as a hedge; where it stops, there the fault is. */
    private static final class HedgeReader {
        private final Hedge hedge;
        private int told;
        private int at;

        private HedgeReader() {
            hedge = new Hedge();
            told = 0;
            at = 0;
        }

        private int faultOf(Text text) {
            hedge.length = 0;
            told = 0;
            at = 0;
            // A part has one character at least, so that there are no more parts than characters.
            for (int part = 0; part < MOST_CHARACTERS; part++) {
                if (!readPart(text)) {
                    return at;
                }
                if (at >= text.length) {
                    return NO_FAULT;
                }
            }
            return at;
        }

        private boolean readPart(Text text) {
            int kind = kindFor(text.signAt(at));
            if (kind == NO_CHAIN) {
                return false;
            }
            at++;
            int thickness = 0;
            if (kind == STANDS || kind == LAID) {
                thickness = digitFor(text.signAt(at));
                if (thickness < 1) {
                    return false;
                }
                at++;
            }
            int many = 1;
            if (text.signAt(at) == '*') {
                at++;
                many = readNumber(text);
            }
            told += many;
            hedge.addChains(kind, thickness, many);
            return many > 0;
        }

        /** A number from 1 to 30, or 0 if there is none: then it stops at the digit that is not allowed. */
        private int readNumber(Text text) {
            int number = digitFor(text.signAt(at));
            if (number < 1) {
                return 0;
            }
            at++;
            while (at < text.length && digitFor(text.signAt(at)) >= 0) {
                number = number * 10 + digitFor(text.signAt(at));
                if (number > MOST_CHAINS) {
                    return 0;
                }
                at++;
            }
            return number;
        }

        private static int kindFor(char sign) {
            switch (sign) {
                case 't': return STANDS;
                case 'l': return LAID;
                case 'g': return GAP;
                case 'p': return PLANTED;
                default: return NO_CHAIN;
            }
        }

        private static int digitFor(char sign) {
            return sign >= '0' && sign <= '9' ? sign - '0' : -1;
        }
    }

    /** The orders in which the fields with contracts can be done; a set of fields is told by its bits. */
    private static final class Orders {
        private final int[] weeks;
        private final int[] lastWeeks;
        private final int[] finesPerWeek;
        private final int[] least;
        private int all;
        private int presentWeek;

        private Orders() {
            weeks = new int[FIELDS];
            lastWeeks = new int[FIELDS];
            finesPerWeek = new int[FIELDS];
            least = new int[1 << FIELDS];
        }

        /** The time at which a set is begun, when the others are done, is the same for each order of these. */
        private void reckon(Land land) {
            lookAt(land);
            least[0] = 0;
            for (int left = 1; left < least.length; left++) {
                if ((left & ~all) == 0) {
                    least[left] = leastOf(left);
                }
            }
        }

        private void lookAt(Land land) {
            all = 0;
            presentWeek = land.week;
            for (int field = 0; field < FIELDS; field++) {
                if (land.contracts[field].made) {
                    all |= 1 << field;
                }
                weeks[field] = land.weeksOfWork(field);
                lastWeeks[field] = land.contracts[field].lastWeek;
                finesPerWeek[field] = land.finePerWeek(field);
            }
        }

        private int leastOf(int left) {
            int fewest = MORE_THAN_ALL_FINES;
            for (int field = 0; field < FIELDS; field++) {
                if (isIn(field, left)) {
                    fewest = Math.min(fewest, finesIfNext(field, left));
                }
            }
            return fewest;
        }

        private int finesIfNext(int field, int left) {
            int done = presentWeek + weeks[field];
            for (int other = 0; other < FIELDS; other++) {
                if (isIn(other, all) && !isIn(other, left)) {
                    done += weeks[other];
                }
            }
            int delay = Math.max(done - lastWeeks[field], 0);
            return finesPerWeek[field] * delay + least[left & ~(1 << field)];
        }

        private static boolean isIn(int field, int set) {
            return (set & (1 << field)) != 0;
        }

        private int leastFines() {
            return least[all];
        }

        private int firstField() {
            for (int field = 0; field < FIELDS; field++) {
                if (isIn(field, all) && finesIfNext(field, all) == least[all]) {
                    return field;
                }
            }
            return NONE;
        }
    }
}
