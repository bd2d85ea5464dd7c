/** Promises 14 to 16: append, clearText, read. */
public final class TextTest {
    private static final Check CHECK = new Check("TextTest");

    public static void main(String[] args) {
        appends();
        clears();
        reads();
        faults();
        readErrors();
        CHECK.end();
    }

    private static void due(String call, long got, long want) {
        CHECK.due(call, got, want);
    }

    private static void appends() {
        HedgeChains x = new HedgeChains();
        due("append(1)", x.append(1), 1);
        due("append(255)", x.append(255), 2);
        due("append(0)", x.append(0), Calls.INVALID);
        due("append(256)", x.append(256), Calls.INVALID);
        due("append(65536 + 116)", x.append(65536 + 't'), Calls.INVALID);
        for (int bad : Calls.BEYOND) {
            due("append(bad)", x.append(bad), Calls.INVALID);
        }
        for (int length = 3; length <= 80; length++) {
            due("append(116)", x.append('t'), length);
        }
        due("no room", x.append('t'), Calls.FULL);
        due("INVALID ahead of it", x.append(0), Calls.INVALID);
        due("length", x.count(17), 80);
        due("no action", x.count(16), 0);
    }

    private static void clears() {
        HedgeChains x = Calls.typed(new HedgeChains(), "abc");
        due("clearText()", x.clearText(), 3);
        due("clearText()", x.clearText(), 0);
        due("length", x.count(17), 0);
        due("append(116)", x.append('t'), 1);
        due("the old text is gone", x.read(0), -1001);
    }

    private static void reads() {
        HedgeChains x = new HedgeChains();
        due("read", Calls.readHedge(x, 3, "t9l1*2gp*3g*1t5*10"), 18);
        int[] kinds = {0, 1, 1, 2, 3, 3, 3, 2, 0};
        int[] thicknesses = {9, 1, 1, 0, 0, 0, 0, 0, 5};
        for (int chain = 0; chain < 18; chain++) {
            due("kind of " + chain, x.chain(3, chain, 0), kinds[Math.min(chain, 8)]);
            due("thickness of " + chain, x.chain(3, chain, 1), thicknesses[Math.min(chain, 8)]);
            due("age of " + chain, x.chain(3, chain, 2), 0);
        }
        due("the text is empty", x.count(17), 0);
        due("other hedges stay", x.field(2, 0), 10);
        due("laid so far", x.count(10), 0);
        due("planted so far", x.count(11), 0);
        due("t1*30", Calls.readHedge(x, 0, "t1*30"), 30);
        due("chain 29", x.chain(0, 29, 1), 1);
        due("chain 30", x.chain(0, 30, 1), Calls.INVALID);
        due("g", Calls.readHedge(x, 0, "g"), 1);
        due("chain 1", x.chain(0, 1, 0), Calls.INVALID);
        due("p*5 after ages", Calls.readHedge(x, 0, "p*5"), 5);
        x.pass(2);
        due("age 2", x.chain(0, 0, 2), 2);
        due("p*5 again", Calls.readHedge(x, 0, "p*5"), 5);
        due("age 0", x.chain(0, 0, 2), 0);
        due("a part after a number", Calls.readHedge(x, 0, "g*2p*10l3t4*9"), 22);
        due("30 parts", Calls.readHedge(x, 0, "gpgpgpgpgpgpgpgpgpgpgpgpgpgpgp"), 30);
    }

    private static void faults() {
        String[] texts = {"", "t", "l", "x", "T5", "t0", "ta", "t5x", "t55", "g5", "p0", "t5*", "t5*x", "t5*0", "t5*05",
            "t5*31", "t5*300", "t5*30x", "t5*3*", "t5**", "*", "5", "g*", "g*1", "gg*2pp*40", " t5", "t5 ", "t5*9t",
            "g*99", "g*30g*30x", "t5\u0001", "g\u00b2", "g*\u00b2", "t\u00b2", "g*3\u00b2", "p*4l", "p*29p*29p*31"};
        int[] fault = {0, 1, 1, 0, 0, 1, 1, 2, 2, 1, 1, 3, 3, 3, 3,
            4, 5, 5, 4, 3, 0, 0, 2, -1, 8, 0, 2, 5,
            3, 8, 2, 1, 2, 1, 3, 4, 11};
        due("as many faults as texts", fault.length, texts.length);
        for (int i = 0; i < texts.length; i++) {
            HedgeChains x = Calls.typed(new HedgeChains(), texts[i]);
            String before = Calls.seen(x);
            int answer = x.read(1);
            due("read of " + texts[i], answer, fault[i] < 0 ? 1 : -1000 - fault[i]);
            if (fault[i] >= 0) {
                due("nothing has changed", Calls.seen(x).equals(before) ? 1 : 0, 1);
            }
        }
        StringBuilder full = new StringBuilder("g*10t");
        while (full.length() < 80) {
            full.insert(0, "g");
        }
        due("fault behind a full text", Calls.readHedge(new HedgeChains(), 0, full.toString()), -1080);
        due("80 gaps", Calls.readHedge(new HedgeChains(), 0, "g".repeat(80)), Calls.FULL);
    }

    private static void readErrors() {
        HedgeChains x = Calls.typed(new HedgeChains(), "g*30p");
        String before = Calls.seen(x);
        due("31 chains", x.read(0), Calls.FULL);
        due("INVALID ahead of it", x.read(6), Calls.INVALID);
        for (int bad : Calls.BEYOND) {
            due("read(bad)", x.read(bad), Calls.INVALID);
        }
        due("nothing has changed", Calls.seen(x).equals(before) ? 1 : 0, 1);
        x.append('x');
        due("the fault ahead of the room", x.read(0), -1005);
        due("INVALID ahead of the fault", x.read(-1), Calls.INVALID);
        x.clearText();
        Calls.typed(x, "t5");
        due("read after a failed one", x.read(0), 1);
        due("its chain", x.chain(0, 0, 1), 5);
    }
}
