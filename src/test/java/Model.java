import java.util.ArrayDeque;
import java.util.ArrayList;
import java.util.Deque;
import java.util.List;
import java.util.regex.Matcher;
import java.util.regex.Pattern;

/**
 * The document once more, written in another way than the program: chains that are never changed but replaced, states
 * that are copied whole, every order of the fields tried, and texts read by a pattern.
 */
final class Model {
    private static final int INVALID = -1;
    private static final int ILLEGAL = -2;
    private static final int FULL = -3;
    private static final int NONE = -9;

    private record Chain(char kind, int thickness, int age) {
        boolean stands() {
            return kind == 't';
        }

        boolean toLay() {
            return stands() && thickness >= 2;
        }

        int number() {
            return "tlgp".indexOf(kind);
        }
    }

    private record Contract(int price, int last, int fine) {
    }

    private static final class World {
        List<List<Chain>> hedges = new ArrayList<>();
        Contract[] contracts = new Contract[6];
        int week = 0;
        int[] settings = {10, 30, 30};
        int used = 0;
        int stakes = 10;
        int purse = 50;
        int debt = 0;
        int earned = 0;
        int fined = 0;
        int laid = 0;
        int planted = 0;
        /** Worlds that are kept are never changed, so that they can be shared. */
        World[] slots = new World[2];

        World copy() {
            World other = new World();
            for (List<Chain> hedge : hedges) {
                other.hedges.add(new ArrayList<>(hedge));
            }
            other.contracts = contracts.clone();
            other.week = week;
            other.settings = settings.clone();
            other.used = used;
            other.stakes = stakes;
            other.purse = purse;
            other.debt = debt;
            other.earned = earned;
            other.fined = fined;
            other.laid = laid;
            other.planted = planted;
            other.slots = slots.clone();
            return other;
        }

        int work() {
            return settings[2] - used;
        }

        boolean closed(int inWeek) {
            int w = inWeek % 52;
            boolean closed = false;
            for (int each = settings[0], steps = 0; steps < 52; each = (each + 1) % 52, steps++) {
                closed |= each == w;
                if (each == settings[1]) {
                    break;
                }
            }
            return closed;
        }

        int number(int field, char kind) {
            return (int) hedges.get(field).stream().filter(c -> c.kind() == kind).count();
        }

        void endContracts() {
            for (int field = 0; field < 6; field++) {
                if (number(field, 't') == 0) {
                    contracts[field] = null;
                }
            }
        }

        void pay(int coins) {
            purse -= coins;
            if (purse < 0) {
                debt -= purse;
                purse = 0;
            }
        }

        boolean layable(int field, int chain) {
            if (chain >= hedges.get(field).size()) {
                return false;
            }
            Chain c = hedges.get(field).get(chain);
            return c.toLay() && c.thickness() <= work() && stakes >= 2;
        }

        int week() {
            week++;
            used = 0;
            for (List<Chain> hedge : hedges) {
                hedge.replaceAll(this::grown);
            }
            int due = 0;
            for (int field = 0; field < 6; field++) {
                Contract c = contracts[field];
                if (c != null && week > c.last()) {
                    int fine = c.fine() * number(field, 't');
                    due += fine;
                    pay(fine);
                }
            }
            fined += due;
            return due;
        }

        Chain grown(Chain c) {
            switch (c.kind()) {
                case 'p':
                    return c.age() == 5 ? new Chain('t', 1, 0) : new Chain('p', 0, c.age() + 1);
                case 't':
                    return week % 4 != 0 || c.thickness() == 9 ? c : new Chain('t', c.thickness() + 1, 0);
                case 'l':
                    if (week % 52 != 0) {
                        return c;
                    }
                    return c.thickness() > 7 ? new Chain('t', 9, 0) : new Chain('l', c.thickness() + 2, 0);
                default:
                    return c;
            }
        }
    }

    private World now = new World();
    private final Deque<World> history = new ArrayDeque<>();
    private String text = "";

    Model() {
        for (int field = 0; field < 6; field++) {
            List<Chain> hedge = new ArrayList<>();
            for (int i = 0; i < 10; i++) {
                hedge.add(new Chain('t', 4, 0));
            }
            now.hedges.add(hedge);
        }
    }

    private void record() {
        history.addLast(now.copy());
        if (history.size() == 6) {
            history.removeFirst();
        }
    }

    private boolean noField(int field) {
        return field < 0 || field > 5;
    }

    private boolean noChain(int field, int chain) {
        return noField(field) || chain < 0 || chain >= now.hedges.get(field).size();
    }

    private Chain get(int field, int chain) {
        return now.hedges.get(field).get(chain);
    }

    private void put(int field, int chain, Chain c) {
        now.hedges.get(field).set(chain, c);
        now.endContracts();
    }

    int lay(int field, int from, int many) {
        if (noChain(field, from) || many < 1 || many > 30) {
            return INVALID;
        }
        if (now.closed(now.week) || !now.layable(field, from)) {
            return ILLEGAL;
        }
        record();
        int chain = from;
        for (; chain < from + many && now.layable(field, chain); chain++) {
            Chain c = get(field, chain);
            now.used += c.thickness();
            now.stakes -= 2;
            now.laid++;
            if (now.contracts[field] != null) {
                now.purse += now.contracts[field].price();
                now.earned += now.contracts[field].price();
            }
            put(field, chain, new Chain('l', c.thickness(), 0));
        }
        return chain - from;
    }

    int cut(int field, int chain) {
        if (noChain(field, chain)) {
            return INVALID;
        }
        Chain c = get(field, chain);
        if (now.closed(now.week) || !c.stands() || c.thickness() < 3 || now.work() < 1) {
            return ILLEGAL;
        }
        record();
        now.used++;
        now.stakes += c.thickness();
        put(field, chain, new Chain('t', c.thickness() - 2, 0));
        return now.stakes;
    }

    int plant(int field, int chain) {
        if (noChain(field, chain)) {
            return INVALID;
        }
        if (get(field, chain).kind() != 'g' || now.work() < 2 || now.purse < 3) {
            return ILLEGAL;
        }
        record();
        now.used += 2;
        now.purse -= 3;
        now.planted++;
        put(field, chain, new Chain('p', 0, 0));
        return now.work();
    }

    int grub(int field, int chain) {
        if (noChain(field, chain)) {
            return INVALID;
        }
        int was = get(field, chain).number();
        if (was == 2) {
            return ILLEGAL;
        }
        record();
        put(field, chain, new Chain('g', 0, 0));
        return was;
    }

    int pass(int weeks) {
        if (weeks < 1 || weeks > 60) {
            return INVALID;
        }
        if (now.week > 1000 - weeks) {
            return FULL;
        }
        record();
        int due = 0;
        for (int i = 0; i < weeks; i++) {
            due += now.week();
        }
        return due;
    }

    int set(int what, int value) {
        if (what < 0 || what > 2 || value < (what == 2 ? 1 : 0) || value > (what == 2 ? 100 : 51)) {
            return INVALID;
        }
        record();
        int previous = now.settings[what];
        now.settings[what] = value;
        if (what == 2) {
            now.used = Math.min(now.used, value);
        }
        return previous;
    }

    int contract(int field, int price, int weeks, int fine) {
        if (noField(field) || price < 0 || price > 20 || weeks < 0 || weeks > 100 || fine < 0 || fine > 9) {
            return INVALID;
        }
        int standing = now.number(field, 't');
        if (now.contracts[field] != null || standing == 0) {
            return ILLEGAL;
        }
        record();
        now.contracts[field] = new Contract(price, now.week + weeks, fine);
        return standing;
    }

    int giveBack(int field) {
        if (noField(field)) {
            return INVALID;
        }
        if (now.contracts[field] == null) {
            return ILLEGAL;
        }
        record();
        int cost = 5 * now.contracts[field].fine();
        now.pay(cost);
        now.contracts[field] = null;
        return cost;
    }

    int payDebt() {
        if (now.debt == 0 || now.purse == 0) {
            return ILLEGAL;
        }
        record();
        int paid = Math.min(now.debt, now.purse);
        now.debt -= paid;
        now.purse -= paid;
        return paid;
    }

    int take(int slot) {
        if (slot != 0 && slot != 1) {
            return INVALID;
        }
        record();
        now.slots[slot] = now.copy();
        return now.week;
    }

    int restore(int slot) {
        if (slot != 0 && slot != 1) {
            return INVALID;
        }
        if (now.slots[slot] == null) {
            return ILLEGAL;
        }
        record();
        World[] slots = now.slots;
        now = slots[slot].copy();
        now.slots = slots;
        return now.week;
    }

    int undo() {
        if (history.isEmpty()) {
            return ILLEGAL;
        }
        now = history.removeLast();
        return history.size();
    }

    int append(int character) {
        if (character < 1 || character > 255) {
            return INVALID;
        }
        if (text.length() == 80) {
            return FULL;
        }
        text += (char) character;
        return text.length();
    }

    int clearText() {
        int previous = text.length();
        text = "";
        return previous;
    }

    private static final String PART = "([tl][1-9]|[gp])(?:\\*(30|[12][0-9]|[1-9]))?";
    private static final Pattern HEDGE = Pattern.compile("(?:" + PART + ")+");

    /** A text can be the beginning of a hedge's text if the pattern fails at its very end alone. */
    private static boolean canBegin(String text) {
        Matcher matcher = HEDGE.matcher(text);
        return matcher.matches() || matcher.hitEnd();
    }

    int read(int field) {
        if (noField(field)) {
            return INVALID;
        }
        if (!HEDGE.matcher(text).matches()) {
            int fault = 0;
            while (fault < text.length() && canBegin(text.substring(0, fault + 1))) {
                fault++;
            }
            return -1000 - fault;
        }
        List<Chain> hedge = new ArrayList<>();
        Matcher part = Pattern.compile(PART).matcher(text);
        while (part.find()) {
            String what = part.group(1);
            int many = part.group(2) == null ? 1 : Integer.parseInt(part.group(2));
            for (int i = 0; i < many; i++) {
                hedge.add(new Chain(what.charAt(0), what.length() == 2 ? what.charAt(1) - '0' : 0, 0));
            }
        }
        if (hedge.size() > 30) {
            return FULL;
        }
        record();
        now.hedges.set(field, hedge);
        now.endContracts();
        text = "";
        return hedge.size();
    }

    int count(int what) {
        int contracts = 0;
        for (Contract c : now.contracts) {
            contracts += c == null ? 0 : 1;
        }
        int snapshots = (now.slots[0] == null ? 0 : 1) + (now.slots[1] == null ? 0 : 1);
        int[] all = {now.week, now.week % 52, now.closed(now.week) ? 1 : 0, now.work(), now.stakes, now.purse, now.debt,
            now.earned, now.fined, contracts, now.laid, now.planted, now.settings[0], now.settings[1], now.settings[2],
            snapshots, history.size(), text.length()};
        return what < 0 || what >= all.length ? INVALID : all[what];
    }

    int field(int field, int what) {
        if (noField(field) || what < 0 || what > 10) {
            return INVALID;
        }
        StringBuilder signs = new StringBuilder();
        for (Chain c : now.hedges.get(field)) {
            signs.append(c.kind());
        }
        String run = "";
        while (signs.indexOf(run + "l") >= 0) {
            run += "l";
        }
        Contract c = now.contracts[field];
        switch (what) {
            case 0: return signs.length();
            case 5: return run.length();
            case 6: return run.isEmpty() ? NONE : signs.indexOf(run);
            case 7: return c == null ? 0 : 1;
            case 8: return c == null ? NONE : c.price();
            case 9: return c == null ? NONE : c.last();
            case 10: return c == null ? NONE : c.fine();
            default: return now.number(field, "tlgp".charAt(what - 1));
        }
    }

    int chain(int field, int chain, int what) {
        if (noChain(field, chain) || what < 0 || what > 2) {
            return INVALID;
        }
        Chain c = get(field, chain);
        return what == 0 ? c.number() : what == 1 ? c.thickness() : c.age();
    }

    int toLay(int field, int what) {
        if (noField(field) || what < 0 || what > 1) {
            return INVALID;
        }
        return now.hedges.get(field).stream().filter(Chain::toLay).mapToInt(c -> what == 0 ? c.thickness() : 2).sum();
    }

    int stakesIn(int field) {
        if (noField(field)) {
            return INVALID;
        }
        int stakes = 0;
        for (Chain c : now.hedges.get(field)) {
            int thickness = c.stands() ? c.thickness() : 0;
            while (thickness >= 3) {
                stakes += thickness;
                thickness -= 2;
            }
        }
        return stakes;
    }

    int doneIn(int field) {
        if (noField(field)) {
            return INVALID;
        }
        Deque<Chain> todo = new ArrayDeque<>();
        now.hedges.get(field).stream().filter(Chain::toLay).forEach(todo::add);
        if (todo.stream().anyMatch(c -> c.thickness() > now.settings[2])) {
            return NONE;
        }
        for (int weeks = 0; weeks <= 200; weeks++) {
            int left = now.closed(now.week + weeks) ? 0 : weeks == 0 ? now.work() : now.settings[2];
            while (!todo.isEmpty() && todo.peek().thickness() <= left) {
                left -= todo.remove().thickness();
            }
            if (todo.isEmpty()) {
                return weeks;
            }
        }
        return NONE;
    }

    int bestOrder(int what) {
        if (what < 0 || what > 1) {
            return INVALID;
        }
        int[] best = {Integer.MAX_VALUE, NONE};
        tryOrders(new ArrayList<>(), best);
        return best[1] == NONE ? NONE : best[what];
    }

    /** Orders come in the document's order of them, so that the first of the best ones stays. */
    private void tryOrders(List<Integer> order, int[] best) {
        boolean whole = true;
        for (int field = 0; field < 6; field++) {
            if (now.contracts[field] != null && !order.contains(field)) {
                whole = false;
                order.add(field);
                tryOrders(order, best);
                order.remove(order.size() - 1);
            }
        }
        if (whole && !order.isEmpty() && finesOf(order) < best[0]) {
            best[0] = finesOf(order);
            best[1] = order.get(0);
        }
    }

    private int finesOf(List<Integer> order) {
        int week = now.week;
        int fines = 0;
        for (int field : order) {
            week += (int) Math.ceil(toLay(field, 0) / (double) now.settings[2]);
            Contract c = now.contracts[field];
            fines += week > c.last() ? (week - c.last()) * c.fine() * now.number(field, 't') : 0;
        }
        return fines;
    }
}
