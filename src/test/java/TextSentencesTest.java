/** The sentences on the text: append, clearText and read. */
public final class TextSentencesTest {
    public static void main(String[] args) throws Exception {
        Sentences.run(TextSentencesTest.class);
    }

    private static void faultIs(Check check, String text, int fault) {
        HedgeChains x = Calls.typed(new HedgeChains(), text);
        check.due("read of '" + text + "'", x.read(0), -1000 - fault);
        check.due("length of '" + text + "'", x.count(17), text.length());
    }

    /** The kinds by their letters, the thicknesses by their digits. */
    private static void hedgeIs(Check check, String text, String kinds, String thicknesses) {
        HedgeChains x = Calls.typed(new HedgeChains(), text);
        check.due("read of '" + text + "'", x.read(0), kinds.length());
        check.due("field(0, 0) of '" + text + "'", x.field(0, 0), kinds.length());
        for (int chain = 0; chain < kinds.length(); chain++) {
            String which = "chain " + chain + " of '" + text + "'";
            check.due("kind of " + which, x.chain(0, chain, 0), "tlgp".indexOf(kinds.charAt(chain)));
            check.due("thickness of " + which, x.chain(0, chain, 1), thicknesses.charAt(chain) - '0');
            check.due("age of " + which, x.chain(0, chain, 2), 0);
        }
        check.due("no more chains of '" + text + "'", x.chain(0, kinds.length(), 0), Calls.INVALID);
    }

    @Holds("There is a text of at most 80 characters, empty at first.")
    static void eightyCharacters(Check check) {
        HedgeChains x = new HedgeChains();
        check.due("clearText() at first", x.clearText(), 0);
        for (int length = 1; length <= 80; length++) {
            check.due("append(103)", x.append('g'), length);
        }
        check.due("append(103) to 80 characters", x.append('g'), Calls.FULL);
        check.due("length", x.count(17), 80);
        HedgeChains whole = Calls.typed(new HedgeChains(), "g*1".repeat(24) + "t9*1l8*2");
        check.due("length", whole.count(17), 80);
        check.due("read(0) of 80 characters", whole.read(0), 27);
        check.due("thickness by the 79th of them", whole.chain(0, 26, 1), 8);
        check.due("laid ones by the 80th of them", whole.field(0, 2), 2);
    }

    @Holds("`character`: character code, 1 to 255")
    static void characterCodes(Check check) {
        HedgeChains x = new HedgeChains();
        for (int character = 1; character <= 60; character++) {
            check.due("append(" + character + ")", x.append(character), character);
        }
        x.clearText();
        for (int character = 196; character <= 255; character++) {
            check.due("append(" + character + ")", x.append(character), character - 195);
        }
        check.due("append(0)", x.append(0), Calls.INVALID);
        check.due("append(-1)", x.append(-1), Calls.INVALID);
        check.due("append(256)", x.append(256), Calls.INVALID);
        for (int character : Calls.BEYOND) {
            check.due("append(" + character + ")", x.append(character), Calls.INVALID);
        }
        check.due("length", x.count(17), 60);
    }

    @Holds("Appends a character to the text.")
    static void appendIsNoAction(Check check) {
        HedgeChains x = new HedgeChains();
        x.append('g');
        check.due("states", x.count(16), 0);
        x.pass(1);
        x.append('*');
        x.append('5');
        check.due("states", x.count(16), 1);
        check.due("it goes on at the end", x.read(0), 5);
    }

    @Holds("Returns the new length of the text; INVALID_ARGUMENT if character is out of range; CAPACITY_EXCEEDED if the text already"
            + " has 80 characters.")
    static void whatAppendAnswers(Check check) {
        HedgeChains x = Calls.typed(new HedgeChains(), "g".repeat(79));
        check.due("the 80th", x.append(255), 80);
        check.due("the 81st", x.append(1), Calls.FULL);
        check.due("the 81st", x.append(255), Calls.FULL);
        check.due("out of range", x.append(0), Calls.INVALID);
        check.due("out of range", x.append(256), Calls.INVALID);
        x.clearText();
        check.due("the first again", x.append('g'), 1);
    }

    @Holds("Makes the text empty.")
    static void clearTextIsNoAction(Check check) {
        HedgeChains x = Calls.typed(new HedgeChains(), "t5x");
        x.clearText();
        check.due("length", x.count(17), 0);
        check.due("states", x.count(16), 0);
        check.due("read(0)", x.read(0), -1000);
        check.due("a new text begins", Calls.typed(x, "gg").read(0), 2);
    }

    @Holds("Returns the previous length of the text.")
    static void whatClearTextAnswers(Check check) {
        HedgeChains x = new HedgeChains();
        check.due("clearText() of none", x.clearText(), 0);
        for (int length : new int[] {1, 2, 79, 80}) {
            check.due("clearText()", Calls.typed(x, "x".repeat(length)).clearText(), length);
            check.due("clearText() again", x.clearText(), 0);
        }
    }

    @Holds("A hedge as a text is one or more parts, one behind another: a letter \"t\" (chains that stand) or \"l\" (laid ones) with a"
            + " digit from 1 to 9 (their thickness), \"g\" (gaps) or \"p\" (planted ones, of the age 0);")
    static void parts(Check check) {
        for (int digit = 1; digit <= 9; digit++) {
            hedgeIs(check, "t" + digit, "t", "" + digit);
            hedgeIs(check, "l" + digit, "l", "" + digit);
        }
        hedgeIs(check, "g", "g", "0");
        hedgeIs(check, "p", "p", "0");
        hedgeIs(check, "t1l2gpt3", "tlgpt", "12003");
        hedgeIs(check, "gpgpgpgpgpgpgpgpgpgpgpgpgpgpgp", "gpgpgpgpgpgpgpgpgpgpgpgpgpgpgp", "0".repeat(30));
        for (String letter : new String[] {"t", "l"}) {
            faultIs(check, letter + "0", 1);
            faultIs(check, letter + ":", 1);
            faultIs(check, letter + "/", 1);
            faultIs(check, letter + "*3", 1);
            faultIs(check, letter + letter + "3", 1);
            faultIs(check, letter + "12", 2);
            faultIs(check, letter + "\u00b9", 1);
            faultIs(check, letter + letter.toUpperCase(), 1);
        }
        faultIs(check, "g1", 1);
        faultIs(check, "p1", 1);
        faultIs(check, "g0", 1);
        faultIs(check, "1", 0);
        for (char other = 1; other < 256; other++) {
            if ("tlgp".indexOf(other) < 0) {
                faultIs(check, "" + other, 0);
                faultIs(check, "g" + other, other == '*' ? 2 : 1);
            }
        }
    }

    @Holds("each may be followed by \"*\" and a number of chains, 1 to 30, without leading zeros (without it it is one).")
    static void numbersOfChains(Check check) {
        for (int many = 1; many <= 30; many++) {
            hedgeIs(check, "g*" + many, "g".repeat(many), "0".repeat(many));
            hedgeIs(check, "p*" + many, "p".repeat(many), "0".repeat(many));
            hedgeIs(check, "t7*" + many, "t".repeat(many), "7".repeat(many));
            hedgeIs(check, "l9*" + many, "l".repeat(many), "9".repeat(many));
        }
        hedgeIs(check, "t5t6*2t7", "tttt", "5667");
        hedgeIs(check, "g*1p*2l3*3t4*4", "gpplll" + "t".repeat(4), "0003334444");
        hedgeIs(check, "t1*9l2*10g*11", "t".repeat(9) + "l".repeat(10) + "g".repeat(11), "1".repeat(9) + "2".repeat(10) + "0".repeat(11));
        faultIs(check, "g*0", 2);
        faultIs(check, "g*00", 2);
        faultIs(check, "g*01", 2);
        faultIs(check, "g*030", 2);
        faultIs(check, "t5*0", 3);
        faultIs(check, "l5*09", 3);
        faultIs(check, "g**2", 2);
        faultIs(check, "g*-1", 2);
        faultIs(check, "g*+1", 2);
        faultIs(check, "g*t5", 2);
        faultIs(check, "g*2*2", 3);
        faultIs(check, "t5*2*", 4);
    }

    @Holds("The fault of the text is the index, from 0, of the first character that is not allowed at its place,")
    static void firstFault(Check check) {
        String[] texts = {"x", " t5", "T5", "tx", "t5x", "t5 ", "t5,g", "gx", "gpx", "gp*x", "g*3x", "g*30x", "t5*2x", "t5*2l", "*", "*3",
            "t5x*x", "xx", "g*0x", "t0*0", "l4*3t2*1g*2p5", "gG", "g*3p*4t9*5l", "gpgpgpgpgp#gp"};
        int[] fault = {0, 0, 0, 1, 2, 2, 2, 1, 2, 3, 3, 4, 4, 5, 0, 0, 2, 0, 2, 1, 12, 1, 11, 10};
        check.due("as many faults as texts", fault.length, texts.length);
        for (int i = 0; i < texts.length; i++) {
            faultIs(check, texts[i], fault[i]);
        }
        faultIs(check, "g".repeat(79) + "x", 79);
        faultIs(check, "g".repeat(31) + "x", 31);
        faultIs(check, "x" + "g".repeat(79), 0);
    }

    @Holds("or the length of the text if it ends too early (as the empty text does);")
    static void endsTooEarly(Check check) {
        faultIs(check, "", 0);
        faultIs(check, "t", 1);
        faultIs(check, "l", 1);
        faultIs(check, "g*", 2);
        faultIs(check, "p*", 2);
        faultIs(check, "t5*", 3);
        faultIs(check, "gt", 2);
        faultIs(check, "t5l", 3);
        faultIs(check, "g*30t", 5);
        faultIs(check, "g*30p*", 6);
        faultIs(check, "g".repeat(79) + "t", 80);
        faultIs(check, "g".repeat(79) + "*", 80);
        faultIs(check, "g".repeat(77) + "t5*", 80);
        HedgeChains x = Calls.typed(new HedgeChains(), "t");
        check.due("read(0)", x.read(0), -1001);
        check.due("it can be gone on with", Calls.typed(x, "5").read(0), 1);
    }

    @Holds("a digit by which a number would be above 30 is not allowed.")
    static void numbersAbove30(Check check) {
        for (int first = 1; first <= 9; first++) {
            for (int second = 0; second <= 9; second++) {
                int many = 10 * first + second;
                if (many > 30) {
                    faultIs(check, "g*" + many, 3);
                    faultIs(check, "t5*" + many + "g", 4);
                }
            }
        }
        faultIs(check, "g*100", 4);
        faultIs(check, "g*300", 4);
        faultIs(check, "g*299", 4);
        faultIs(check, "g*31x", 3);
        faultIs(check, "g*99999999999999999999", 3);
        faultIs(check, "g*3000000000000000000", 4);
        faultIs(check, "g*4294967297", 3);
        faultIs(check, "gg*31", 4);
        check.due("the sum is no number of the text", Calls.typed(new HedgeChains(), "g*30g").read(0), Calls.FULL);
    }

    @Holds("Gives a field the hedge of the text, and makes the text empty.")
    static void aHedgeIsRead(Check check) {
        HedgeChains x = Calls.typed(new HedgeChains(), "l2*3");
        check.due("read(5)", x.read(5), 3);
        check.due("length of the text", x.count(17), 0);
        check.due("chains of field 5", x.field(5, 0), 3);
        check.due("chains of field 4", x.field(4, 0), 10);
        check.due("read(5) of the empty text", x.read(5), -1000);
        check.due("it is an action", x.count(16), 1);
        Calls.readHedge(x, 0, "p*3");
        x.pass(4);
        check.due("age", x.chain(0, 0, 2), 4);
        Calls.readHedge(x, 0, "p*2");
        check.due("of the age 0", x.chain(0, 0, 2), 0);
        x.pass(2);
        Calls.readHedge(x, 1, "p*30");
        check.due("of the age 0, where others were", x.chain(1, 29, 2), 0);
        check.due("those of another field are older", x.chain(0, 0, 2), 2);
    }

    @Holds("Returns the number of its chains; INVALID_ARGUMENT if field is out of range; -1000 minus the fault of the text if it has"
            + " one (which is an error);")
    static void whatReadAnswers(Check check) {
        HedgeChains x = new HedgeChains();
        check.due("30 chains", Calls.readHedge(x, 0, "g*30"), 30);
        check.due("1 chain", Calls.readHedge(x, 0, "p"), 1);
        check.due("fault 0", Calls.readHedge(x, 0, ""), -1000);
        check.due("fault 1", Calls.readHedge(x, 0, "t"), -1001);
        check.due("the text stays with its fault", x.count(17), 1);
        check.due("the hedge, too", x.field(0, 4), 1);
        check.due("fault 80", Calls.readHedge(x, 0, "g".repeat(79) + "l"), -1080);
        check.due("read(-1)", x.read(-1), Calls.INVALID);
        check.due("read(6)", x.read(6), Calls.INVALID);
        for (int field : Calls.BEYOND) {
            check.due("read(" + field + ")", x.read(field), Calls.INVALID);
        }
    }

    @Holds("CAPACITY_EXCEEDED if it has more than 30 chains.")
    static void moreThan30Chains(Check check) {
        String[] texts = {"g*30", "g*29p", "g*15p*15", "t1*10l1*10g*10", "g*30p", "g*29pp", "pg*30", "g*30p*30", "t1*16l1*15",
            "g*30p*30t1*30l1*30"};
        for (int i = 0; i < texts.length; i++) {
            HedgeChains x = Calls.typed(new HedgeChains(), texts[i]);
            check.due("read(0) of " + texts[i], x.read(0), i < 4 ? 30 : Calls.FULL);
            check.due("chains", x.field(0, 0), i < 4 ? 30 : 10);
            check.due("length of the text", x.count(17), i < 4 ? 0 : texts[i].length());
        }
        check.due("30 parts", Calls.typed(new HedgeChains(), "g".repeat(30)).read(0), 30);
        check.due("31 parts", Calls.typed(new HedgeChains(), "g".repeat(31)).read(0), Calls.FULL);
        check.due("80 parts", Calls.typed(new HedgeChains(), "g".repeat(80)).read(0), Calls.FULL);
    }
}
