/** What several tests do with an object. */
final class Calls {
    static final int INVALID = -1;
    static final int ILLEGAL = -2;
    static final int FULL = -3;
    static final int NONE = -9;
    /** Out of the range of every argument, near to it and far, and some that are within it if bits are cut off. */
    static final int[] BEYOND = {Integer.MIN_VALUE, Integer.MIN_VALUE + 1, -65536, -1000, -9, -2, -1, 256, 1001, 65536, 65536 + 't',
        Integer.MAX_VALUE};

    private Calls() {
    }

    static HedgeChains typed(HedgeChains x, String text) {
        for (int i = 0; i < text.length(); i++) {
            x.append(text.charAt(i));
        }
        return x;
    }

    /** Answers what read answers. */
    static int readHedge(HedgeChains x, int field, String text) {
        x.clearText();
        return typed(x, text).read(field);
    }

    static HedgeChains with(int field, String text) {
        HedgeChains x = new HedgeChains();
        readHedge(x, field, text);
        return x;
    }

    static void weeks(HedgeChains x, int many) {
        for (int left = many; left > 0; left -= 60) {
            x.pass(Math.min(left, 60));
        }
    }

    /** What count tells but for the states in the history and the text, which snapshots and undo leave as they are. */
    static String counted(HedgeChains x) {
        StringBuilder all = new StringBuilder();
        for (int what = 0; what < 16; what++) {
            all.append(x.count(what)).append(' ');
        }
        return all.toString();
    }

    /** What can be seen of the fields and of three chains of each, in 138 calls, as an object has but 512. */
    static String seenBesidesHistory(HedgeChains x) {
        StringBuilder all = new StringBuilder(counted(x));
        for (int field = 0; field < 6; field++) {
            for (int what = 0; what <= 10; what++) {
                all.append(x.field(field, what)).append(' ');
            }
            int[] chains = {0, 2, x.field(field, 0) - 1};
            for (int chain : chains) {
                all.append(x.chain(field, chain, 0)).append(',').append(x.chain(field, chain, 1)).append(',')
                        .append(x.chain(field, chain, 2)).append(' ');
            }
        }
        return all.toString();
    }

    static String seen(HedgeChains x) {
        return seenBesidesHistory(x) + x.count(16) + " " + x.count(17);
    }

    /**
     * All that can be seen, each chain too, in 270 calls and more for longer hedges: too many for a second look at the
     * same object, so that tests look at two that were treated alike.
     */
    static String whole(HedgeChains x) {
        return wholeLand(x) + x.count(15) + " " + x.count(16) + " " + x.count(17);
    }

    /** What a snapshot keeps: all that can be seen but the number of snapshots, of states and of characters. */
    static String wholeLand(HedgeChains x) {
        StringBuilder all = new StringBuilder();
        for (int what = 0; what < 15; what++) {
            all.append(x.count(what)).append(' ');
        }
        for (int field = 0; field < 6; field++) {
            all.append("| ");
            for (int what = 0; what <= 10; what++) {
                all.append(x.field(field, what)).append(' ');
            }
            int length = Math.min(x.field(field, 0), 30);
            for (int chain = 0; chain < length; chain++) {
                all.append(x.chain(field, chain, 0)).append(',').append(x.chain(field, chain, 1)).append(',')
                        .append(x.chain(field, chain, 2)).append(' ');
            }
        }
        return all.toString();
    }
}
