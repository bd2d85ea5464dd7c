/** Long runs of calls, the same ones each time, with the model's answers as due. */
public final class ModelTest {
    private static final int RUNS = 3000;
    /** An object has 512 calls: the rest is for a text that is begun and for the last look. */
    private static final int CALLS = 380;
    private static final String[] TEXTS = {"t5*9", "t9*20l8*3", "g*5t3p*2", "l7l8l9*4", "t1*4t2*3t3", "gp", "t9*30", "l1*3gl2*3t6",
        "t2*15l3*15", "p*30", "t4*30g", "t8t7t6t5t4t3t2t1", "t3*2*", "t5*31", "g*07", "l0", "t", "tl5", "p*12t9*12l4*7"};
    private static final String SIGNS = "ttllgp**0123456789xT ";

    private final Check check;
    private long seed;
    private HedgeChains x;
    private Model m;
    private int calls;
    /** Some runs go on slowly, others come to the last weeks. */
    private int longest;

    private ModelTest(Check check, long seed) {
        this.check = check;
        this.seed = seed;
    }

    public static void main(String[] args) {
        Check check = new Check("ModelTest");
        for (int run = 0; run < RUNS; run++) {
            new ModelTest(check, run * 7919L + 17).play();
        }
        check.end();
    }

    private int pick(int bound) {
        seed = seed * 6364136223846793005L + 1442695040888963407L;
        return (int) ((seed >>> 33) % bound);
    }

    /** Mostly within the range, now and then just outside or far beyond. */
    private int within(int least, int greatest) {
        int kind = pick(40);
        if (kind == 0) {
            return least - 1;
        }
        if (kind == 1) {
            return greatest + 1;
        }
        if (kind == 2) {
            return Calls.BEYOND[pick(Calls.BEYOND.length)];
        }
        return least + pick(greatest - least + 1);
    }

    private void same(String call, int got, int want) {
        calls++;
        check.due("call " + calls + " of a run, " + call, got, want);
    }

    private void play() {
        x = new HedgeChains();
        m = new Model();
        calls = 0;
        longest = pick(3) == 0 ? 60 : 6;
        while (calls < CALLS) {
            int kind = pick(100);
            if (kind < 45) {
                act(kind);
            } else if (kind < 55) {
                keep(kind);
            } else if (kind < 65) {
                text(kind);
            } else {
                look(kind);
            }
        }
        lookAtAll();
    }

    private void act(int kind) {
        int field = within(0, 5);
        int chain = within(0, pick(3) == 0 ? 29 : 9);
        if (kind < 12) {
            int many = within(1, 30);
            same("lay", x.lay(field, chain, many), m.lay(field, chain, many));
        } else if (kind < 18) {
            same("cut", x.cut(field, chain), m.cut(field, chain));
        } else if (kind < 23) {
            same("plant", x.plant(field, chain), m.plant(field, chain));
        } else if (kind < 26) {
            same("grub", x.grub(field, chain), m.grub(field, chain));
        } else if (kind < 32) {
            int weeks = within(1, longest);
            same("pass", x.pass(weeks), m.pass(weeks));
        } else if (kind < 36) {
            int what = within(0, 2);
            int value = within(what == 2 ? 1 : 0, what == 2 ? pick(3) == 0 ? 100 : 12 : 51);
            same("set", x.set(what, value), m.set(what, value));
        } else if (kind < 42) {
            int price = within(0, 20);
            int weeks = within(0, pick(4) == 0 ? 100 : 12);
            int fine = within(0, 9);
            same("contract", x.contract(field, price, weeks, fine), m.contract(field, price, weeks, fine));
        } else if (kind < 43) {
            same("giveBack", x.giveBack(field), m.giveBack(field));
        } else {
            same("payDebt", x.payDebt(), m.payDebt());
        }
    }

    private void keep(int kind) {
        int slot = within(0, 1);
        if (kind < 47) {
            same("take", x.take(slot), m.take(slot));
        } else if (kind < 49) {
            same("restore", x.restore(slot), m.restore(slot));
        } else {
            same("undo", x.undo(), m.undo());
        }
    }

    private void text(int kind) {
        if (kind < 58) {
            String text = TEXTS[pick(TEXTS.length)];
            for (int i = 0; i < text.length(); i++) {
                same("append", x.append(text.charAt(i)), m.append(text.charAt(i)));
            }
        } else if (kind < 61) {
            int sign = pick(8) == 0 ? within(1, 255) : SIGNS.charAt(pick(SIGNS.length()));
            same("append", x.append(sign), m.append(sign));
        } else if (kind < 62) {
            same("clearText", x.clearText(), m.clearText());
        } else {
            int field = within(0, 5);
            int answer = m.read(field);
            same("read", x.read(field), answer);
            if (answer < -3) {
                same("clearText", x.clearText(), m.clearText());
            }
        }
    }

    private void look(int kind) {
        int field = within(0, 5);
        int bit = within(0, 1);
        if (kind < 72) {
            int what = within(0, 17);
            same("count " + what, x.count(what), m.count(what));
        } else if (kind < 78) {
            int what = within(0, 10);
            same("field " + what, x.field(field, what), m.field(field, what));
        } else if (kind < 84) {
            int chain = within(0, 12);
            int what = within(0, 2);
            same("chain " + what, x.chain(field, chain, what), m.chain(field, chain, what));
        } else if (kind < 87) {
            same("toLay", x.toLay(field, bit), m.toLay(field, bit));
        } else if (kind < 89) {
            same("stakesIn", x.stakesIn(field), m.stakesIn(field));
        } else if (kind < 94) {
            same("doneIn", x.doneIn(field), m.doneIn(field));
        } else {
            same("bestOrder", x.bestOrder(bit), m.bestOrder(bit));
        }
    }

    private void lookAtAll() {
        for (int what = 0; what <= 17; what++) {
            same("count " + what, x.count(what), m.count(what));
        }
        for (int field = 0; field < 6; field++) {
            for (int what = 0; what <= 10; what++) {
                same("field " + what, x.field(field, what), m.field(field, what));
            }
            int chain = pick(m.field(field, 0));
            for (int what = 0; what <= 2; what++) {
                same("chain " + what, x.chain(field, chain, what), m.chain(field, chain, what));
            }
        }
    }
}
