/** Promises 8 to 15: the tape, rows, and the two languages. */
public final class TextTest {
    private static final Check check = new Check();

    public static void main(String[] args) {
        tape();
        rows();
        laws();
        ruleFaults();
        orderFaults();
        limits();
        broken();
        orders();
        orderWords();
        ordersTakenBack();
        check.close("TextTest");
    }

    private static void tape() {
        KeyHouses x = new KeyHouses();
        check.due(8, "feed", x.feed(0x00010203, 0x04FF0607, 0, 0, 0x0C0D0E0F), 20);
        check.due(9, "end(21)", x.end(21), -1);
        check.due(9, "end(-1)", x.end(-1), -1);
        check.due(9, "end(20)", x.end(20), 20);
        check.due(9, "end(6)", x.end(6), 6);
        check.due(8, "row", x.row(), 3);
        check.due(8, "the highest byte first", x.music(0), 1);
        check.due(8, "the second two", x.music(2), 3);
        check.due(8, "the second number", x.music(4), 255);
        check.due(9, "nothing is behind", x.count(5), 0);
        for (int i = 1; i <= 20; i++) {
            check.due(8, "feed", x.feed(1, 2, 3, 4, 5), 20 * i);
        }
        check.due(8, "more than 400", x.feed(1, 2, 3, 4, 5), -1);
        check.due(8, "count(5)", x.count(5), 400);
        check.due(9, "end(381)", x.end(381), 381);
        check.due(8, "381 and 20", x.feed(1, 2, 3, 4, 5), -1);
        check.due(9, "end(380)", x.end(380), 380);
        check.due(8, "380 and 20", x.feed(1, 2, 3, 4, 5), 400);
        check.due(9, "end(0)", x.end(0), 0);
        check.due(9, "status() is not told", x.status(), 0);
    }

    private static void rows() {
        KeyHouses x = new KeyHouses();
        check.due(10, "an empty tape", x.row(), -6);
        x.note(5, 9);
        Check.tape(x, new byte[] {0, 7, 16, 1, 15, (byte) 128, (byte) 255, 3, 0, 9, 2});
        check.due(10, "row()", x.row(), 3);
        check.due(11, "creaks()", x.creaks(), 3);
        check.due(10, "told twice", x.music(0), 9);
        check.due(10, "music(15)", x.music(15), 128);
        check.due(10, "music(2)", x.music(2), 0);
        check.due(10, "not told", x.music(9), 32);
        check.due(10, "the tape", x.count(5), 0);
        check.due(10, "an empty tape", x.row(), -6);
        check.due(11, "creaks() of the one before", x.creaks(), 3);
        Check.tape(x, new byte[] {3, 1});
        check.due(10, "row()", x.row(), 1);
        check.due(11, "creaks()", x.creaks(), 0);
    }

    private static void laws() {
        KeyHouses x = new KeyHouses();
        for (int i = 0; i < 6; i++) {
            check.due(12, "law()", Check.law(x, "minds " + i), i);
        }
        check.due(14, "fault()", x.fault(), -1);
        Check.orders(x, "pass pass");
        check.due(14, "fault()", x.fault(), 5);
        check.due(12, "a seventh", Check.law(x, "nonsense"), -5);
        check.due(12, "status()", x.status(), -5);
        check.due(12, "the tape is empty", x.count(5), 0);
        check.due(14, "fault() of the one that was read", x.fault(), 5);
        check.due(12, "count(3)", x.count(3), 6);
        x = new KeyHouses();
        check.due(12, "an empty tape", x.law(), -6);
        check.due(14, "fault()", x.fault(), 0);
        check.due(12, "blanks", Check.law(x, "   "), -6);
        check.due(14, "fault()", x.fault(), 3);
        check.due(12, "the tape is empty", x.count(5), 0);
        check.due(12, "no blanks", Check.law(x, "minds1if(2<key)and not house=1or 3>[2+1]*4;lends;bars if beat=0"), 0);
        check.due(14, "fault()", x.fault(), -1);
    }

    private static void ruleFault(String text, int place) {
        KeyHouses x = new KeyHouses();
        check.due(12, "law() " + text, Check.law(x, text), place < 0 ? 0 : -6);
        check.due(14, "fault() of " + text, x.fault(), place);
        check.due(12, "count(3)", x.count(3), place < 0 ? 1 : 0);
    }

    private static void orderFault(String text, int place) {
        KeyHouses x = new KeyHouses();
        int told = Check.orders(x, text);
        check.due(13, "orders() " + text, told == -6 ? 1 : 0, place < 0 ? 0 : 1);
        check.due(14, "fault() of " + text, x.fault(), place);
    }

    private static void ruleFaults() {
        ruleFault("minds 1", -1);
        ruleFault("minds 1  ", -1);
        ruleFault("minds 1 2", 8);
        ruleFault("minds", 5);
        ruleFault("minds  ", 7);
        ruleFault("minds -1", 6);
        ruleFault("minds 1 +", 9);
        ruleFault("minds 1000", -1);
        ruleFault("minds 0001000", -1);
        ruleFault("minds 1001", 6);
        ruleFault("minds 99999999999999999999999", 6);
        ruleFault("minds key2", 9);
        ruleFault("minds keys", 6);
        ruleFault("minds [1 + 2", 12);
        ruleFault("minds [1 + 2)", 12);
        ruleFault("minds []", 7);
        ruleFault("minds day;", 10);
        ruleFault("minds day;;", 10);
        ruleFault(";lends", 0);
        ruleFault("lends if", 8);
        ruleFault("lends if key", 12);
        ruleFault("lends if key =", 14);
        ruleFault("lends if key = 1 = 1", 17);
        ruleFault("lends if key = 1 and", 20);
        ruleFault("lends if not not (not key = 1 and (1 < 2 or 2 > 3))", -1);
        ruleFault("lends if (key) = 1", 13);
        ruleFault("lends if (key = 1", 17);
        ruleFault("lends if [key = 1]", 14);
        ruleFault("lends if key = 1)", 16);
        ruleFault("bars 1", 5);
        ruleFault("bars lends", 5);
        ruleFault("Lends", 0);
        ruleFault("lends\tif key = 1", 5);
        ruleFault("minds done", 6);
        ruleFault("minds owner 1", 12);
        ruleFault("minds 1 if key < 2 times 3", 19);
        ruleFault("pass", 0);
        ruleFault("minds \u00e9", 6);
    }

    private static void orderFaults() {
        orderFault("pass", -1);
        orderFault("pass times 20 if day < 0", -1);
        orderFault("pass times 21", 11);
        orderFault("pass times 0", 11);
        orderFault("pass times day", 11);
        orderFault("pass times", 10);
        orderFault("pass if day < 0 times 2", 16);
        orderFault("pass 1", 5);
        orderFault("note 1", 6);
        orderFault("note 1 to 2", 7);
        orderFault("note 1 at", 9);
        orderFault("give 1 at 2", 7);
        orderFault("shift music 15 if 1 < 0", -1);
        orderFault("shift music 16", 12);
        orderFault("shift music", 11);
        orderFault("shift music day", 12);
        orderFault("shift owner 7 if 1 < 0", -1);
        orderFault("shift owner 8", 12);
        orderFault("shift house", 6);
        orderFault("shift mood", 6);
        orderFault("lends", 0);
        orderFault("", 0);
        orderFault("  ", 2);
        orderFault("pass;", 5);
    }

    private static void limits() {
        String twelve = Check.repeat("lends;", 11) + "lends";
        ruleFault(twelve, -1);
        ruleFault(twelve + ";lends", 72);
        ruleFault(twelve + "; nonsense", 73);
        ruleFault(twelve + ";", 72);
        String fifty = "minds " + Check.repeat("1+", 24) + "1;minds " + Check.repeat("1+", 24) + "1";
        ruleFault(fifty, -1);
        ruleFault(fifty + "+1", fifty.length() + 1);
        ruleFault(fifty + " if key = 1", fifty.length() + 4);
        ruleFault("minds " + Check.repeat("[", 8) + "1" + Check.repeat("]", 8), -1);
        ruleFault("minds " + Check.repeat("[", 9) + "1" + Check.repeat("]", 9), 14);
        ruleFault("lends if " + Check.repeat("(", 4) + Check.repeat("[", 5) + "1", 17);
        ruleFault("lends if " + Check.repeat("(", 8) + "1 = 1" + Check.repeat(")", 8) + " and ([1] = 1)", -1);
        ruleFault("lends if " + Check.repeat("(", 9) + "1 = 1", 17);
        ruleFault("lends if " + Check.repeat("(", 8) + "[1] = 1", 17);
        ruleFault("minds " + Check.repeat("[1]+", 12) + "1", -1);
        ruleFault(Check.repeat(";", 400), 0);
        ruleFault("minds " + Check.repeat("[", 8) + "1" + Check.repeat("]", 8) + Check.repeat(")", 377), 23);
        ruleFault("minds 1" + Check.repeat(" ", 393), -1);
        ruleFault("minds 1+" + Check.repeat(" ", 392), 400);
        String many = "pass if " + Check.repeat("0+", 49) + "0";
        orderFault(many + " < 0", many.length() + 3);
        String music = "shift " + Check.repeat("music 1+", 24) + "owner 1";
        orderFault(music + " times 3 if " + Check.repeat("0+", 23) + "0 < 0", -1);
        orderFault(music + " times 3 if " + Check.repeat("0+", 24) + "0 < music 0", music.length() + 64);
        ruleFault("lends if " + Check.repeat("not ", 96) + "1=1", -1);
    }

    private static int mindedBy(String sum) {
        KeyHouses x = new KeyHouses();
        x.house(1, 1);
        Check.law(x, "minds 42; minds " + sum);
        x.force(0);
        return x.asks(0, 5, 3, 0);
    }

    private static int lentIf(String test) {
        KeyHouses x = new KeyHouses();
        x.house(1, 1);
        Check.law(x, "lends if " + test);
        x.force(0);
        return x.asks(0, 5, 3, 1);
    }

    private static void broken() {
        check.due(6, "a product first", mindedBy("1 + 2 * 3"), 7);
        check.due(6, "from the left", mindedBy("9 - 3 - 2"), 4);
        check.due(6, "from the left", mindedBy("40 / 4 / 2 * 3 % 4"), 3);
        check.due(6, "brackets", mindedBy("[1 + 2] * 3"), 9);
        check.due(6, "cut towards 0", mindedBy("10 + [0 - 7] / 2"), 7);
        check.due(6, "what is left then", mindedBy("10 + [0 - 7] % 2"), 9);
        check.due(6, "what is left then", mindedBy("10 + 7 % [0 - 4]"), 13);
        check.due(6, "/ 0", mindedBy("1 / 0"), 42);
        check.due(6, "% 0", mindedBy("1 % [key - 5]"), 42);
        check.due(6, "just 1,000,000,000", mindedBy("1000 * 1000 * 1000 / 1000 / 1000 / 100"), 10);
        check.due(6, "beyond", mindedBy("[1000 * 1000 * 1000 + 1] * 0"), 42);
        check.due(6, "beyond below", mindedBy("[0 - 1000 * 1000 * 1000 - 1] * 0"), 42);
        check.due(6, "just as far below", mindedBy("[0 - 1000 * 1000 * 1000] * 0 + 5"), 5);
        check.due(6, "or, so already", lentIf("1 = 1 or 1 / 0 = 1"), 1);
        check.due(6, "or, broken ahead", lentIf("1 / 0 = 1 or 1 = 1"), 0);
        check.due(6, "or, it still matters", lentIf("1 = 2 or 1 / 0 = 1"), 0);
        check.due(6, "and, not so already", lentIf("not (1 = 2 and 1 / 0 = 1)"), 1);
        check.due(6, "and, it still matters", lentIf("not (1 = 1 and 1 / 0 = 1)"), 0);
        check.due(6, "not broken is broken", lentIf("not 1 / 0 = 1"), 0);
        check.due(6, "not not", lentIf("not not 1 = 1"), 1);
        check.due(6, "and binds first", lentIf("1 = 1 or 1 = 2 and 1 = 2"), 1);
        check.due(6, "brackets", lentIf("(1 = 1 or 1 = 2) and 1 = 2"), 0);
        check.due(6, "three of or", lentIf("1 > 2 or 2 < 1 or key = 5 or 1 / 0 = 1"), 1);
        check.due(6, "three of and", lentIf("key > 4 and beat < 4 and key = 5 and 1 = 0"), 0);
    }

    private static void orders() {
        KeyHouses x = new KeyHouses();
        x.house(1, 1);
        check.due(13, "orders", Check.orders(x, "note 1 at 2; give 3 to 0; shift 1; pass; pass times 3 if day < 3"), 6);
        check.due(13, "music", x.music(2), 4);
        check.due(13, "owner", x.owner(3), 0);
        check.due(13, "day", x.count(12), 3);
        check.due(13, "the tape", x.count(5), 0);
        check.due(13, "to be undone", x.count(4), 6);
        check.due(13, "to nobody", Check.orders(x, "give 3 to 0 - 1"), 1);
        check.due(13, "once", Check.orders(x, "pass times 1"), 1);
        check.due(13, "none", Check.orders(x, "give 3 to 9 if 1 = 2; shift 0 if 1 / 0 = 1"), 0);
        check.due(13, "20 times", Check.orders(x, "pass times 20"), 20);
        check.due(13, "16 are kept", x.count(4), 16);
        check.due(15, "stopped()", x.stopped(), -1);
        check.due(13, "asked each time", Check.orders(x, "note day % 8 at 4 times 2; note done at 5 times 3"), 5);
        check.due(13, "twice the same", x.music(4), 0);
        check.due(13, "2, 3, 4", x.music(5), 28);
    }

    private static void orderWords() {
        KeyHouses x = new KeyHouses();
        x.house(1, 1);
        x.terms(0, 7);
        check.due(13, "day", Check.orders(x, "note day at 0"), 1);
        check.due(13, "music", x.music(0), 128);
        check.due(13, "drill, notes", Check.orders(x, "note drill + notes at 1 if music 0 = 128 and owner 7 = 0 - 1"), 1);
        check.due(13, "music", x.music(1), 2);
        check.due(13, "latest", Check.orders(x, "note 5 at 2 if latest = 0 - 1; shift 0 - 1; note latest at 3; note latest at 3"), 4);
        check.due(13, "music", x.music(3), 0);
        check.due(13, "drill", Check.orders(x, "give 0 to 0; give 4 to 0; give 6 to 0; pass if drill = 16; pass if drill = 3"), 4);
        check.due(13, "day", x.count(12), 8);
    }

    /** A street with eighteen notes, of which sixteen can be undone, on day 980. */
    private static KeyHouses noted() {
        KeyHouses x = new KeyHouses();
        x.house(1, 1);
        x.terms(0, 980);
        x.give(0, 0);
        for (int i = 0; i < 18; i++) {
            x.note(i % 7, i / 7);
        }
        return x;
    }

    private static KeyHouses refused(String text, int clause) {
        KeyHouses x = noted();
        int[] before = state(x);
        check.due(13, text, Check.orders(x, text), -3);
        check.due(15, "stopped() by " + text, x.stopped(), clause);
        check.due(14, "fault() of " + text, x.fault(), -1);
        check.due(13, "status()", x.status(), -3);
        int[] after = state(x);
        for (int i = 0; i < before.length; i++) {
            check.due(13, "all as it was ahead of " + text + ", " + i, after[i], before[i]);
        }
        return x;
    }

    private static int[] state(KeyHouses x) {
        int[] state = new int[26];
        for (int i = 0; i < 16; i++) {
            state[i] = x.music(i);
        }
        for (int i = 0; i < 8; i++) {
            state[16 + i] = x.owner(i);
        }
        state[24] = x.count(4);
        state[25] = x.count(12);
        return state;
    }

    private static void ordersTakenBack() {
        refused("note 8 at 0", 0);
        refused("note 0 at 16", 0);
        refused("note 0 at 0 - 1", 0);
        refused("pass; note 1 at 1; give 0 to 0", 2);
        refused("give 0 to 0 - 1; give 0 to 1", 1);
        refused("give 0 to 0 - 2", 0);
        refused("give 8 to 0", 0);
        refused("pass times 20", 0);
        refused("shift 1; shift 1", 1);
        refused("shift 0", 0);
        refused("shift 8", 0);
        refused("pass; pass; note 1 / 0 at 1", 2);
        refused("pass; note 1 at 1000 * 1000 * 1000 + 1", 1);
        KeyHouses x = refused("note 1 at 3 times 20; note 2 at 3 times 19; give 1 to 0; pass times 10; pass times 10", 4);
        for (int i = 17; i > 1; i--) {
            check.due(21, "undo() behind all that", x.undo(), 0);
            check.due(21, "the note is not there", x.music(i / 7) >> i % 7 & 1, 0);
        }
        check.due(21, "no more", x.undo(), -3);
        check.due(15, "stopped()", x.stopped(), 4);
        Check.orders(x, "nonsense");
        check.due(15, "stopped() behind a fault", x.stopped(), -1);
    }
}
