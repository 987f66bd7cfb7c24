/** Terms I and II, sentence by sentence: each edge that a sentence names. */
public final class TermsEdgeTest {
    private static final Check check = new Check();
    private static final int MIN = Integer.MIN_VALUE;
    private static final int MAX = Integer.MAX_VALUE;

    private static String sentence = "";

    public static void main(String[] args) {
        keys();
        nobodyAtFirst();
        houses();
        handsAndReach();
        beats();
        sets();
        motifSets();
        terms();
        firstRefusal();
        tapeRoom();
        tokens();
        blanks();
        clauses();
        grammar();
        firstWords();
        textsOneBehindAnother();
        words();
        numbers();
        parts();
        partsOfOrders();
        brackets();
        faultAtTheEnd();
        beyond();
        divided();
        brokenTests();
        onlyIfItMatters();
        lawsInForce();
        holds();
        minded();
        can();
        orderClauses();
        times();
        beatAndKeyWords();
        ifEachTime();
        done();
        latest();
        drillAndNotes();
        cannotBe();
        asItWas();
        check.close("TermsEdgeTest");
    }

    private static void due(String call, long got, long want) {
        check.due(sentence, call, got, want);
    }

    // ---- I

    private static void keys() {
        sentence = "I. KEYS 0 .. 7";
        KeyHouses x = Check.lending(1, 8, 7);
        for (int key = 0; key <= 7; key++) {
            due("give(" + key + ", 0)", x.give(key, 0), 6);
            due("owner(" + key + ")", x.owner(key), 0);
            due("note(" + key + ", 0)", x.note(key, 0), (2 << key) - 1);
            due("asks(0, " + key + ", 0, 1)", x.asks(0, key, 0, 1), 1);
            due("who(0, " + key + ")", x.who(0, key), 0);
            due("might(0, " + key + ")", x.might(0, key), 1);
        }
        x.evenings(0, 1);
        due("drawn(7, 1)", x.drawn(7, 1), 0);
        for (int key : new int[] {-1, 8, MIN, MAX}) {
            due("owner(" + key + ")", x.owner(key), -1);
            due("note(" + key + ", 0)", x.note(key, 0), -1);
            due("give(" + key + ", -1)", x.give(key, -1), -1);
            due("asks(0, " + key + ", 0, 0)", x.asks(0, key, 0, 0), -1);
            due("asks(0, " + key + ", 0, 1)", x.asks(0, key, 0, 1), -1);
            due("who(0, " + key + ")", x.who(0, key), -1);
            due("might(0, " + key + ")", x.might(0, key), -1);
            due("drawn(" + key + ", 1)", x.drawn(key, 1), -1);
        }
        due("music(0)", x.music(0), 255);
    }

    private static void nobodyAtFirst() {
        sentence = "I. the OWNER of each is a HOUSE, or nobody (at first)";
        KeyHouses x = new KeyHouses();
        x.house(1, 1);
        for (int key = 0; key <= 7; key++) {
            due("owner(" + key + ")", x.owner(key), -1);
        }
        due("of(0, 2)", x.of(0, 2), 0);
        due("give(3, 0)", x.give(3, 0), 6);
        due("give(3, -1)", x.give(3, -1), 0);
        due("owner(3)", x.owner(3), -1);
    }

    private static void houses() {
        sentence = "I. HOUSES 0 .. 5 (6 at most)";
        KeyHouses x = new KeyHouses();
        for (int house = 0; house <= 5; house++) {
            due("of ahead of its house()", x.of(house, 0), -1);
            due("give ahead of its house()", x.give(0, house), -2);
            due("house", x.house(1, 1), house);
            due("give", x.give(0, house), house == 0 ? 6 : house - 1);
        }
        due("a seventh", x.house(1, 1), -5);
        due("count(0)", x.count(0), 6);
        due("run(63, 0)", x.run(63, 0), 16);
        due("run(64, 0)", x.run(64, 0), -1);
        due("owes(5, 0)", x.owes(5, 0), 0);
        due("asks(5, 0, 0, 1)", x.asks(5, 0, 0, 1), 1);
        for (int house : new int[] {-1, 6, MIN, MAX}) {
            due("of(" + house + ", 0)", x.of(house, 0), -1);
            due("of(" + house + ", 2)", x.of(house, 2), -1);
            due("asks(" + house + ", 0, 0, 0)", x.asks(house, 0, 0, 0), -1);
            due("owes(" + house + ", 0)", x.owes(house, 0), -1);
            due("owes(0, " + house + ")", x.owes(0, house), -1);
            due("give(0, " + house + ")", x.give(0, house), house == -1 ? 5 : -2);
        }
    }

    private static void handsAndReach() {
        sentence = "I. HANDS 1 .. 8, REACH 0 .. 7";
        int[][] wrong = {{0, 0}, {9, 0}, {-1, 3}, {1, -1}, {1, 8}, {MIN, 1}, {MAX, 1}, {1, MIN}, {1, MAX}};
        KeyHouses x = new KeyHouses();
        for (int[] pair : wrong) {
            due("house(" + pair[0] + ", " + pair[1] + ")", x.house(pair[0], pair[1]), -1);
        }
        due("house(1, 0)", x.house(1, 0), 0);
        due("house(8, 7)", x.house(8, 7), 1);
        due("hands", x.of(0, 0) * 10 + x.of(1, 0), 18);
        due("reach", x.of(0, 1) * 10 + x.of(1, 1), 7);
    }

    private static void beats() {
        sentence = "I. at each BEAT 0 .. 15";
        KeyHouses x = Check.lending(1, 8, 7);
        for (int beat = 0; beat <= 15; beat++) {
            due("music at first", x.music(beat), 0);
            due("note(0, " + beat + ")", x.note(0, beat), 1);
            due("music(" + beat + ")", x.music(beat), 1);
            due("asks(0, 0, " + beat + ", 0)", x.asks(0, 0, beat, 0), 1);
            due("least(" + beat + ")", x.least(beat), 1);
            due("who(" + beat + ", 0)", x.who(beat, 0), 0);
            due("ways(" + beat + ")", x.ways(beat), 1);
            due("might(" + beat + ", 0)", x.might(beat, 0), 1);
        }
        x.terms(0, 999);
        x.evenings(0, 1);
        due("drawn(15, 0)", x.drawn(15, 0), 1);
        due("least(-1): all", x.least(-1), 16);
        for (int beat : new int[] {-1, -2, 16, MIN, MAX}) {
            due("music(" + beat + ")", x.music(beat), -1);
            due("note(0, " + beat + ")", x.note(0, beat), -1);
            due("asks(0, 0, " + beat + ", 0)", x.asks(0, 0, beat, 0), -1);
            due("least(" + beat + ")", x.least(beat), beat == -1 ? 16 : -1);
            due("who(" + beat + ", 0)", x.who(beat, 0), -1);
            due("ways(" + beat + ")", x.ways(beat), -1);
            due("might(" + beat + ", 0)", x.might(beat, 0), -1);
            due("drawn(" + beat + ", 0)", x.drawn(beat, 0), -1);
        }
    }

    private static void sets() {
        sentence = "I. a set of KEYS, as bits 0 .. 255 (none at first)";
        KeyHouses x = new KeyHouses();
        Check.set(x, 7, 255);
        due("music(7)", x.music(7), 255);
        due("count(1)", x.count(1), 8);
        for (int key = 7; key >= 0; key--) {
            due("struck out", x.note(key, 7), (1 << key) - 1);
        }
        due("count(1)", x.count(1), 0);
    }

    private static void motifSets() {
        sentence = "I. A MOTIF: 1 .. 6 sets of KEYS, as bits (none told at first)";
        KeyHouses x = new KeyHouses();
        due("count(2)", x.count(2), 0);
        due("find(-1)", x.find(-1), -1);
        due("forget()", x.forget(), 0);
        due("motif(0)", x.motif(0), 1);
        due("find(-1) with one", x.find(-1), 16);
        due("motif(255)", x.motif(255), 2);
        due("motif(-1)", x.motif(-1), -1);
        due("motif(256)", x.motif(256), -1);
        due("motif(min)", x.motif(MIN), -1);
        for (int sets = 3; sets <= 6; sets++) {
            due("motif(1)", x.motif(1), sets);
        }
        due("a seventh", x.motif(1), -5);
        due("count(2)", x.count(2), 6);
    }

    private static void terms() {
        sentence = "I. TERMS: 0 DAY 0 .. 999 (0 at first), 1 SLIP 0 .. 10 (1), 2 MOOD 0 .. 9 (0)";
        int[] most = {999, 10, 9};
        int[] first = {0, 1, 0};
        KeyHouses x = new KeyHouses();
        for (int what = 0; what <= 2; what++) {
            due("at first", x.count(12 + what), first[what]);
            due("the most", x.terms(what, most[what]), first[what]);
            due("more", x.terms(what, most[what] + 1), -1);
            due("below 0", x.terms(what, -1), -1);
            due("min", x.terms(what, MIN), -1);
            due("max", x.terms(what, MAX), -1);
            due("it is as it was", x.count(12 + what), most[what]);
            due("the least", x.terms(what, 0), most[what]);
            due("it was", x.terms(what, 1), 0);
        }
        for (int what : new int[] {-1, 3, MIN, MAX}) {
            due("terms(" + what + ", 0)", x.terms(what, 0), -1);
        }
    }

    private static void firstRefusal() {
        sentence = "I. The first of these in that order";
        KeyHouses x = new KeyHouses();
        due("no number, no houses", x.evenings(-1, 1), -1);
        due("no number, no houses", x.evenings(0, 61), -1);
        due("no key, no house", x.give(8, 0), -1);
        due("no such image, none kept", x.back(2), -1);
        for (int i = 0; i < 6; i++) {
            x.house(1, 1);
            x.motif(1);
            Check.law(x, "lends");
        }
        due("no number, no room", x.house(9, 1), -1);
        due("no number, no room", x.motif(-1), -1);
        due("no room, no text", Check.law(x, "nonsense"), -5);
        due("no room, an empty tape", x.law(), -5);
        x.give(0, 0);
        due("no key, nor a house", x.give(-1, 6), -1);
        due("no house", x.give(0, 6), -2);
        Check.set(x, 0, 255);
        due("no number, nor can it be", x.shift(8), -1);
        due("no number, nor can it be", x.shift(0), -1);
        due("it can't be", x.shift(7), -3);
    }

    // ---- II, of both languages

    private static void tapeRoom() {
        sentence = "II. a TAPE of at most 400 bytes";
        KeyHouses x = new KeyHouses();
        for (int i = 1; i <= 20; i++) {
            due("feed", x.feed(0x20202020, 0x20202020, 0x20202020, 0x20202020, 0x20202020), 20 * i);
        }
        due("the 21st", x.feed(0, 0, 0, 0, 0), -1);
        due("count(5)", x.count(5), 400);
        due("400 blanks", x.law(), -6);
        due("fault()", x.fault(), 400);
        due("400 bytes that are a law", Check.law(x, Check.repeat(" ", 395) + "lends"), 0);
        due("400 bytes that are orders", Check.orders(x, "pass" + Check.repeat(" ", 396)), 1);
        Check.tape(x, new byte[400]);
        due("a row of 200", x.row(), 200);
    }

    private static void law(String text, int place) {
        KeyHouses x = new KeyHouses();
        due("law() of '" + text + "'", Check.law(x, text), place < 0 ? 0 : -6);
        due("fault() of '" + text + "'", x.fault(), place);
    }

    /** Of orders none of which is run, if they can be read. */
    private static void orders(String text, int place) {
        KeyHouses x = new KeyHouses();
        due("orders() of '" + text + "'", Check.orders(x, text), place < 0 ? 0 : -6);
        due("fault() of '" + text + "'", x.fault(), place);
    }

    private static void tokens() {
        sentence = "II. TOKENS: longest rows of letters a .. z, of digits, single other bytes";
        law("minds1", -1);
        law("minds1if key=1or key=2", -1);
        law("minds key", -1);
        law("mindskey", 0);
        law("min ds 1", 0);
        law("lendsif key=1", 0);
        law("minds keyday", 6);
        law("minds 5key", 7);
        law("minds key5", 9);
        law("minds 1 0", 8);
        law("minds 10", -1);
        law("Minds 1", 0);
        law("minds Key", 6);
        law("minds kEy", 6);
        law("minds 1 if 1==1", 13);
        law("minds 1 if 1<>1", 13);
        law("minds `", 6);
        law("minds {", 6);
        law("minds :", 6);
        law("minds 1,0", 7);
        law("minds 1.0", 7);
        law("lends;", 6);
        law("lends:", 5);
        law("lendsz", 0);
        law("lendsa", 0);
        law("alends", 0);
        law("minds 0key", 7);
        law("minds 9key", 7);
        law("minds 90", -1);
        law("minds 09", -1);
        law("minds /9", 6);
    }

    private static void blanks() {
        sentence = "II. any blanks (32) between";
        law("   lends", -1);
        law("lends   ", -1);
        law("lends  ;  bars", -1);
        law("minds   [  1  ]  +  2   if   (  1  =  1  )", -1);
        law("lends\t", 5);
        law("lends\n", 5);
        law("lends\0", 5);
        law("lends\u00a0", 5);
        law("lends\u00ff", 5);
        law("\u001flends", 0);
        law("!lends", 0);
    }

    private static void clauses() {
        sentence = "II. CLAUSE {\";\" CLAUSE}, 12 at most (FAULT at the 13th's first TOKEN)";
        String laws = Check.repeat("lends;", 11) + "lends";
        law(laws, -1);
        law(laws + ";lends", 72);
        law(laws + ";  lends", 74);
        law(laws + ";nonsense", 72);
        law(laws + ";;", 72);
        law(laws + ";", 72);
        law(laws + ";  ", 74);
        law(laws + " lends", 72);
        String passes = Check.repeat("pass if 1=2;", 11) + "pass if 1=2";
        orders(passes, -1);
        orders(passes + "; pass", 145);
        orders(passes + ";", 144);
        KeyHouses x = new KeyHouses();
        due("twelve of them are run", Check.orders(x, Check.repeat("pass;", 11) + "pass"), 12);
        due("thirteen are not", Check.orders(x, Check.repeat("pass;", 12) + "pass"), -6);
        due("the day", x.count(12), 12);
    }

    private static void grammar() {
        sentence = "II. TEST, BOTH, PLAIN, SUM, TERM, PART";
        law("lends if 1", 10);
        law("lends if 1 = 1 or", 17);
        law("lends if 1 = 1 or or", 18);
        law("lends if 1 = 1 and", 18);
        law("lends if 1 = 1 not", 15);
        law("lends if not", 12);
        law("lends if not not 1 = 1", -1);
        law("lends if not (1 = 1)", -1);
        law("lends if not 1", 14);
        law("lends if ()", 10);
        law("lends if (1 = 1", 15);
        law("lends if (1 = 1]", 15);
        law("lends if (1)", 11);
        law("lends if (1 = 1) = 1", 17);
        law("lends if [1 = 1]", 12);
        law("lends if [1] = 1", -1);
        law("lends if 1 < 1 < 1", 15);
        law("lends if < 1", 9);
        law("minds + 1", 6);
        law("minds 1 + + 1", 10);
        law("minds 1 * * 1", 10);
        law("minds (1)", 6);
        law("minds [1", 8);
        law("minds [1)", 8);
        law("minds 1]", 7);
        law("minds []", 7);
        law("minds 1 if", 10);
        law("minds if 1 = 1", 6);
        law("minds 1 if 1 = 1 if 1 = 1", 17);
        law("lends 1", 6);
        law("bars 1", 5);
        law("", 0);
        law("if", 0);
        law("minds 1 + 2 * 3 - 4 / 5 % 6", -1);
        for (String op : new String[] {"+", "-", "*", "/", "%"}) {
            law("minds 1 " + op + " if 1 = 1", 10);
            law("minds 1 " + op + "; lends", 9);
            law("minds [1 " + op + "] if 1 = 1", 10);
            law("lends if 1 " + op + " = 1", 13);
            law("lends if (1 = 1 " + op + ") and 1 = 1", 17);
            orders("note 1 " + op + " at 1", 9);
        }
        for (String op : new String[] {"<", ">", "="}) {
            law("lends if 1 " + op + "; lends", 12);
            law("lends if (1 " + op + ") and 1 = 1", 13);
            law("lends if " + op + " 1", 9);
        }
        for (String op : new String[] {"or", "and", "not"}) {
            law("lends if " + op + "; lends", op.equals("not") ? 12 : 9);
            law("lends if 1 = 1 " + op + "; lends", op.equals("not") ? 15 : 15 + op.length());
            law("lends if (1 = 1 " + op + ") or 1 = 1", op.equals("not") ? 16 : 16 + op.length());
        }
    }

    private static void firstWords() {
        sentence = "II. LAWS: CLAUSE: (\"minds\" SUM | \"lends\" | \"bars\"); ORDERS: CLAUSE: (\"note\" .. | \"give\" .. | \"shift\" .. | \"pass\")";
        String[] words = {"house", "key", "owner", "beat", "hands", "reach", "day", "mood", "done", "latest", "drill", "notes",
            "music", "minds", "lends", "bars", "note", "give", "shift", "pass", "at", "to", "times", "if", "and", "or", "not", "other"};
        for (String word : words) {
            boolean bare = word.equals("lends") || word.equals("bars");
            law(word, bare ? -1 : word.equals("minds") ? 5 : 0);
            law(word + " 1", bare ? word.length() + 1 : word.equals("minds") ? -1 : 0);
            law("lends; " + word, bare ? -1 : word.equals("minds") ? 12 : 7);
            boolean order = word.equals("note") || word.equals("give") || word.equals("shift");
            orders(word + " if 1 = 2", word.equals("pass") ? -1 : order ? word.length() + 1 : 0);
            orders(word + " 1 if 1 = 2", word.equals("pass") ? 5 : word.equals("shift") ? -1 : order ? word.length() + 3 : 0);
            law("lends if " + word + " 1 = 1", word.equals("not") ? -1 : ruleWord(word) ? 10 + word.length() : 9);
        }
    }

    private static boolean ruleWord(String word) {
        return " house key owner beat hands reach day mood ".contains(" " + word + " ");
    }

    private static void textsOneBehindAnother() {
        sentence = "II. each TEXT has its own CLAUSES, PARTS and brackets";
        KeyHouses x = new KeyHouses();
        x.house(1, 1);
        String fifty = Check.repeat("0+", 47) + "2";
        String deep = Check.repeat("(", 8) + "[1] = 1";
        for (int i = 0; i < 5; i++) {
            due("brackets that stay open", Check.law(x, "lends if " + deep), -6);
            due("fault()", x.fault(), 17);
            due("brackets that stay open", Check.law(x, "minds " + Check.repeat("[", 5)), -6);
            due("fault()", x.fault(), 11);
            due("parts and brackets", Check.orders(x, "note " + fifty + " at " + Check.repeat("[", 8) + "3" + Check.repeat("]", 8)
                + " if " + Check.repeat("(", 8) + "day=" + i + Check.repeat(")", 8)), -6);
            due("parts and brackets", Check.orders(x, "note " + fifty + " at " + Check.repeat("[", 8) + "3" + Check.repeat("]", 8)), 1);
            due("music(3)", x.music(3), i % 2 == 0 ? 4 : 0);
            due("twelve", Check.orders(x, Check.repeat("pass;", 11) + "pass"), 12);
        }
        due("day", x.count(12), 60);
        String lent = "minds 5 * day / 15 + 0 if day = 60 and not (1 = 2 or 2 < 1) or day = 61; lends if not house = 1 or key = 3";
        for (int i = 0; i < 6; i++) {
            due("law()", Check.law(x, lent), i);
            x.force(i);
            due("minded", x.asks(0, 0, 0, 0), 20);
            due("lent", x.asks(0, 0, 0, 1), 1);
        }
    }

    private static void words() {
        sentence = "II. a word, as told";
        for (String word : new String[] {"house", "key", "owner", "beat", "hands", "reach", "day", "mood"}) {
            law("minds " + word, -1);
            orders("pass if 1 = 2 and " + word + " 0 = 1", word.equals("owner") ? -1 : word.equals("day") ? 22 : 18);
        }
        for (String word : new String[] {"done", "latest", "drill", "notes", "music", "minds", "if", "slip"}) {
            law("minds " + word, 6);
        }
        for (String word : new String[] {"day", "done", "latest", "drill", "notes", "music 3", "owner 3"}) {
            orders("shift " + word + " if 1 = 2", -1);
        }
        for (String word : new String[] {"pass", "note", "at", "to", "times", "mood", "slip"}) {
            orders("shift " + word + " if 1 = 2", 6);
        }
        law("minds owner 3", 12);
        law("pass", 0);
        orders("lends", 0);
    }

    private static void numbers() {
        sentence = "II. NUMBER (to 1,000)";
        law("minds 0", -1);
        law("minds 1000", -1);
        law("minds 1001", 6);
        law("minds 00000000000000000001000", -1);
        law("minds 4294967297", 6);
        law("minds 18446744073709551617", 6);
        law("minds 1 if 1 = 1001", 15);
        orders("shift 1000 if 1 = 2", -1);
        orders("shift 1001 if 1 = 2", 6);
    }

    private static void parts() {
        sentence = "II. 50 PARTS that are NUMBERS and words (FAULT at the 51st)";
        String fifty = "minds " + Check.repeat("1+", 49) + "1";
        law(fifty, -1);
        law(fifty + "+1", fifty.length() + 1);
        law(fifty + "+ key", fifty.length() + 2);
        law(fifty + "+ [1]", fifty.length() + 3);
        law(fifty + "+;lends", fifty.length() + 1);
        law(fifty + "+ if 1 = 1", fifty.length() + 2);
        law(fifty + "+ 1001", fifty.length() + 2);
        law(fifty + "+ other", fifty.length() + 2);
        law(fifty + ";lends", -1);
        law(fifty + ";minds 1", fifty.length() + 7);
        law(fifty + " if 1 = 1", fifty.length() + 4);
        law("minds " + Check.repeat("key+", 49) + "key", -1);
        law("minds " + Check.repeat("key+", 50) + "key", 206);
        String fortynine = "lends if " + Check.repeat("1+", 48) + "1";
        law(fortynine + " = 1", -1);
        law(fortynine + " = 1 or 1 = 1", fortynine.length() + 8);
        String bracketed = "minds " + Check.repeat("[1]+", 49) + "[1]";
        law(bracketed, -1);
        law(bracketed + "+[1]", bracketed.length() + 2);
    }

    private static void partsOfOrders() {
        sentence = "II. B, K, TIMES aside, NUMBERS and words count as PARTS";
        String words = "shift " + Check.repeat("music 9+", 20) + Check.repeat("owner 7+", 19) + "1";
        orders(words + " times 20 if " + Check.repeat("0+", 8) + "0 = 1", -1);
        orders(words + " times 20 if " + Check.repeat("0+", 9) + "0 = 1", words.length() + 35);
        orders(words + " times 20 if " + Check.repeat("0+", 9) + "0 = music 16", words.length() + 35);
        orders(words + " times 20 if " + Check.repeat("0+", 8) + "0 = music 16", words.length() + 39);
        String many = Check.repeat("pass times 20 if 1=2;", 11);
        orders(many + "shift " + Check.repeat("0+", 25) + "0 if 1=2", -1);
        orders(many + "shift " + Check.repeat("0+", 26) + "0 if 1=2", many.length() + 6 + 53 + 6);
    }

    private static void brackets() {
        sentence = "II. 8 brackets of both kinds within one another (FAULT at the 9th)";
        for (int square = 0; square <= 8; square++) {
            String open = Check.repeat("(", 8 - square) + Check.repeat("[", square);
            String close = Check.repeat("]", square) + " = 1" + Check.repeat(")", 8 - square);
            law("lends if " + open + "1" + close, -1);
            law("lends if " + open + "[1]" + close, 17);
        }
        law("lends if " + Check.repeat("(", 9) + "1 = 1" + Check.repeat(")", 9), 17);
        law("minds " + Check.repeat("[", 9) + "1" + Check.repeat("]", 9), 14);
        law("minds " + Check.repeat("[1]+", 20) + "1", -1);
        law("lends if " + Check.repeat("(1=1) and ", 15) + "(1=1)", -1);
        law("minds [[[[1]]]]; minds [[[[[1]]]]]; lends if (((([[[[1]]]] = 1))))", -1);
        orders("pass if " + Check.repeat("(", 8) + "1 = 2" + Check.repeat(")", 8), -1);
        orders("pass if " + Check.repeat("(", 9) + "1 = 2" + Check.repeat(")", 9), 16);
        String eight = "minds " + Check.repeat("[", 8) + "1" + Check.repeat("]", 8);
        law(eight + "+" + Check.repeat("[", 8) + "1" + Check.repeat("]", 8), -1);
    }

    private static void faultAtTheEnd() {
        sentence = "II. FAULT: the first TOKEN that can't go on there (the end's: the TEXT's length)";
        law("", 0);
        law(" ", 1);
        law("minds", 5);
        law("minds    ", 9);
        law("minds 1 +   ", 12);
        law("lends;", 6);
        law("lends; ", 7);
        law("lends if (1 = 1   ", 18);
        orders("", 0);
        orders("   ", 3);
        orders("note 1 at ", 10);
        orders("pass times ", 11);
        orders("shift music ", 12);
        orders("shift owner", 11);
        orders("give 1", 6);
    }

    // ---- II, what is broken

    /** What a house is minded by a sum; 42 if that is broken. */
    private static int sum(String text) {
        KeyHouses x = new KeyHouses();
        x.house(1, 1);
        due("law() of " + text, Check.law(x, "minds 42; minds " + text), 0);
        x.force(0);
        return x.asks(0, 5, 3, 0);
    }

    private static int test(String text) {
        KeyHouses x = new KeyHouses();
        x.house(1, 1);
        due("law() of " + text, Check.law(x, "lends if " + text), 0);
        x.force(0);
        return x.asks(0, 5, 3, 1);
    }

    private static void beyond() {
        sentence = "II. Beyond 1,000,000,000 either way a SUM is BROKEN";
        String most = "1000 * 1000 * 1000";
        due("just as far", sum(most + " - [" + most + " - 7]"), 7);
        due("just as far", sum("[" + most + " - 1 + 1] * 0 + 7"), 7);
        due("one beyond by +", sum("[" + most + " + 1] * 0"), 42);
        due("one beyond by -", sum("[" + most + " - [0 - 1]] * 0"), 42);
        due("beyond by *", sum("1000 * 1000 * [1000 + 1] * 0"), 42);
        due("beyond within a term", sum("1000 * 1000 * 1000 * 10 * 0"), 42);
        due("far beyond", sum("[" + most + " * [" + most + "]] * 0"), 42);
        due("just as far below", sum("[0 - " + most + "] * 0 + 7"), 7);
        due("just as far below by *", sum("[0 - 1000] * 1000 * 1000 * 0 + 7"), 7);
        due("one beyond below by -", sum("[0 - " + most + " - 1] * 0"), 42);
        due("one beyond below by +", sum("[0 - " + most + " + [0 - 1]] * 0"), 42);
        due("beyond below by *", sum("[0 - 1000] * 1000 * [1000 + 1] * 0"), 42);
        due("a TEST of it", test(most + " > 999"), 1);
        due("a TEST of one beyond", test(most + " + 1 > 999"), 0);
        due("not a TEST of one beyond", test("not " + most + " + 1 > 999"), 0);
    }

    private static void divided() {
        sentence = "II. divided by 0 (/ cut towards 0, % what is left then)";
        due("/ 0", sum("7 / 0"), 42);
        due("% 0", sum("7 % 0"), 42);
        due("0 / 0", sum("0 / 0"), 42);
        due("0 / 1", sum("0 / 1"), 0);
        due("by what is 0", sum("7 / [key - 5]"), 42);
        due("7 / 2", sum("7 / 2"), 3);
        due("7 % 2", sum("7 % 2"), 1);
        due("-7 / 2", sum("50 + [0 - 7] / 2"), 47);
        due("-7 % 2", sum("50 + [0 - 7] % 2"), 49);
        due("7 / -2", sum("50 + 7 / [0 - 2]"), 47);
        due("7 % -2", sum("50 + 7 % [0 - 2]"), 51);
        due("-7 / -2", sum("50 + [0 - 7] / [0 - 2]"), 53);
        due("-7 % -2", sum("50 + [0 - 7] % [0 - 2]"), 49);
        due("-1 / 2", sum("50 + [0 - 1] / 2"), 50);
    }

    private static void brokenTests() {
        sentence = "II. a TEST is BROKEN";
        due("on the left", test("1 / 0 = 1"), 0);
        due("on the right", test("1 = 1 / 0"), 0);
        due("not", test("not 1 / 0 = 1"), 0);
        due("not not", test("not not 1 / 0 = 1"), 0);
        due("in brackets", test("not (1 / 0 = 1)"), 0);
        due("broken or so", test("1 / 0 = 1 or 1 = 1"), 0);
        due("not (broken and not so)", test("not (1 / 0 = 1 and 1 = 2)"), 0);
        due("not so or broken", test("1 = 2 or 1 / 0 = 1"), 0);
        due("not (so and broken)", test("not (1 = 1 and 1 / 0 = 1)"), 0);
    }

    private static void onlyIfItMatters() {
        sentence = "II. \"or\", \"and\" ask what stands behind only if it can still matter";
        due("so or broken", test("1 = 1 or 1 / 0 = 1"), 1);
        due("not (not so and broken)", test("not (1 = 2 and 1 / 0 = 1)"), 1);
        due("so or broken or broken", test("1 = 1 or 1 / 0 = 1 or 1 % 0 = 1"), 1);
        due("not so and broken, or so", test("1 = 2 and 1 / 0 = 1 or 1 = 1"), 1);
        due("so or (not so and broken)", test("1 = 1 or 1 = 2 and 1 / 0 = 1"), 1);
        due("not (not so and broken and broken)", test("not (1 = 2 and 1 / 0 = 1 and 1 / 0 = 1)"), 1);
        due("(so or broken) and so", test("(1 = 1 or 1 / 0 = 1) and 1 = 1"), 1);
        due("not so or so", test("1 = 2 or 1 = 1"), 1);
        due("so and so", test("1 = 1 and 1 = 1"), 1);
        due("so and not so", test("1 = 1 and 1 = 2"), 0);
        due("not so or not so", test("1 = 2 or 1 = 2"), 0);
        due("less", test("1 < 2") * 100 + test("2 < 2") * 10 + test("3 < 2"), 100);
        due("more", test("1 > 2") * 100 + test("2 > 2") * 10 + test("3 > 2"), 1);
        due("the same", test("1 = 2") * 100 + test("2 = 2") * 10 + test("3 = 2"), 10);
        for (String so : new String[] {"1 < 2", "2 > 1", "2 = 2", "not 2 < 1", "not 1 > 2", "not 1 = 2", "(1 = 1)", "not not 1 = 1"}) {
            due("so: " + so, test(so), 1);
            due("not " + so, test("not " + so), 0);
            due("not (" + so + ")", test("not (" + so + ")"), 0);
            due(so + " or broken", test(so + " or 1 / 0 = 1"), 1);
            due(so + " and broken", test("not (" + so + " and 1 / 0 = 1)"), 0);
            due("not so or " + so, test("1 = 2 or " + so), 1);
            due("so or " + so, test("1 = 1 or " + so), 1);
            due("so or not " + so, test("1 = 1 or not " + so), 1);
            due("so and " + so, test("1 = 1 and " + so), 1);
            due("so and not " + so, test("1 = 1 and not " + so), 0);
            due("not so and " + so, test("1 = 2 and " + so), 0);
            due("not (not so and not " + so + ")", test("not (1 = 2 and not " + so + ")"), 1);
            due("not so and not " + so + " or so", test("1 = 2 and not " + so + " or 1 = 1"), 1);
            due("(so or not " + so + ") and so", test("(1 = 1 or not " + so + ") and 1 = 1"), 1);
        }
    }

    // ---- II, laws

    private static void lawsInForce() {
        sentence = "II. LAWS, 6 at most; one is in FORCE (NONE at first: no CLAUSE)";
        KeyHouses x = new KeyHouses();
        x.house(1, 1);
        due("at first", x.count(11), -1);
        for (int law = 0; law <= 5; law++) {
            due("law()", Check.law(x, "minds " + (10 + law)), law);
            due("read, not in force", x.asks(0, 0, 0, 0), 1);
        }
        due("a seventh", Check.law(x, "minds 1"), -5);
        due("count(3)", x.count(3), 6);
        for (int law = 0; law <= 5; law++) {
            due("force", x.force(law), law - 1);
            due("minded", x.asks(0, 0, 0, 0), 10 + law);
        }
        due("force(6)", x.force(6), -2);
        due("none", x.force(-1), 5);
        due("minded", x.asks(0, 0, 0, 0), 1);
    }

    private static void holds() {
        sentence = "II. A CLAUSE HOLDS, if its \"if\" (if it has one) is so, and neither that nor its SUM is BROKEN";
        due("without an if", sum("7"), 7);
        due("its if is so", sum("7 if key = 5"), 7);
        due("its if is not so", sum("7 if key = 4"), 42);
        due("its if is broken", sum("7 if 1 / 0 = 1"), 42);
        due("its sum is broken", sum("1 / 0 if key = 5"), 42);
        due("both are", sum("1 / 0 if 1 / 0 = 1"), 42);
        due("lends, broken", test("1 / 0 = 1"), 0);
        KeyHouses x = new KeyHouses();
        x.house(1, 1);
        x.give(0, 0);
        x.force(Check.law(x, "bars if 1 / 0 = 1"));
        due("bars, broken", x.asks(0, 0, 0, 1), 1);
    }

    private static void minded() {
        sentence = "II. MINDED as the last \"minds\" that HOLDS tells, 0 .. 99 (else the nearest), 1 without";
        due("0", sum("0"), 0);
        due("99", sum("99"), 99);
        due("100", sum("100"), 99);
        due("-1", sum("0 - 1"), 0);
        due("1,000,000,000", sum("1000 * 1000 * 1000"), 99);
        due("-1,000,000,000", sum("0 - 1000 * 1000 * 1000"), 0);
        due("the last", sum("5; minds 6; minds 7"), 7);
        due("the last that holds", sum("5; minds 6; minds 7 if 1 = 2; minds 8 / 0"), 6);
        KeyHouses x = new KeyHouses();
        x.house(1, 1);
        x.force(Check.law(x, "minds 7 if key = 1; lends"));
        due("without one that holds", x.asks(0, 0, 0, 0), 1);
        due("with it", x.asks(0, 1, 0, 0), 7);
        due("by no owner", x.asks(0, 1, 0, 1), 1);
    }

    private static void can() {
        sentence = "II. it CAN play it then, if it is the OWNER or \"lends\" HOLDS, and \"bars\" does not HOLD";
        KeyHouses x = new KeyHouses();
        x.house(1, 1);
        x.house(1, 1);
        x.give(0, 1);
        due("the owner", x.asks(1, 0, 0, 1), 1);
        due("another one", x.asks(0, 0, 0, 1), 0);
        due("nobody's key", x.asks(0, 1, 0, 1), 0);
        x.force(Check.law(x, "lends if house = 0"));
        due("the owner, not lent", x.asks(1, 0, 0, 1), 1);
        due("lent", x.asks(0, 0, 0, 1), 1);
        due("nobody's key, lent", x.asks(0, 1, 0, 1), 1);
        due("nobody's key, not lent", x.asks(1, 1, 0, 1), 0);
        x.force(Check.law(x, "bars if beat = 3; lends"));
        due("the owner, barred", x.asks(1, 0, 3, 1), 0);
        due("lent behind, barred", x.asks(0, 0, 3, 1), 0);
        due("lent, not barred", x.asks(0, 0, 2, 1), 1);
        x.force(Check.law(x, "lends if owner = 0 - 1"));
        due("owner -1: nobody", x.asks(0, 1, 0, 1), 1);
        due("owner 1", x.asks(0, 0, 0, 1), 0);
        x.force(Check.law(x, "lends if owner = 1"));
        due("owner 1", x.asks(0, 0, 0, 1), 1);
        due("owner -1", x.asks(0, 1, 0, 1), 0);
    }

    // ---- II, orders

    private static void orderClauses() {
        sentence = "II. (a KEY, a BEAT; a KEY, a HOUSE, or 0 - 1: nobody; how far; a DAY.)";
        KeyHouses x = new KeyHouses();
        x.house(1, 1);
        due("note", Check.orders(x, "note 7 at 15"), 1);
        due("music(15)", x.music(15), 128);
        due("give", Check.orders(x, "give 7 to 0"), 1);
        due("owner(7)", x.owner(7), 0);
        due("to nobody", Check.orders(x, "give 7 to 0 - 1"), 1);
        due("owner(7)", x.owner(7), -1);
        due("shift -7", Check.orders(x, "shift 0 - 7"), 1);
        due("music(15)", x.music(15), 1);
        due("shift 7", Check.orders(x, "shift 7"), 1);
        due("music(15)", x.music(15), 128);
        due("pass", Check.orders(x, "pass"), 1);
        due("day", x.count(12), 1);
    }

    private static void times() {
        sentence = "II. TIMES: a NUMBER 1 .. 20; each as often as TIMES tell (once without)";
        orders("pass times 0 if 1 = 2", 11);
        orders("pass times 1 if 1 = 2", -1);
        orders("pass times 20 if 1 = 2", -1);
        orders("pass times 21 if 1 = 2", 11);
        orders("pass times 0020 if 1 = 2", -1);
        orders("pass times 1001 if 1 = 2", 11);
        orders("pass times day if 1 = 2", 11);
        orders("pass times [1] if 1 = 2", 11);
        orders("pass times 1 + 1", 13);
        orders("pass if 1 = 2 times 2", 14);
        orders("pass times 2 times 2", 13);
        law("lends times 2", 6);
        KeyHouses x = new KeyHouses();
        due("once", Check.orders(x, "pass"), 1);
        due("times 1", Check.orders(x, "pass times 1"), 1);
        due("times 20", Check.orders(x, "pass times 20"), 20);
        due("12 by 20", Check.orders(x, Check.repeat("pass times 20;", 11) + "pass times 20"), 240);
        due("day", x.count(12), 262);
    }

    private static void beatAndKeyWords() {
        sentence = "II. \"music\" B | \"owner\" K (B: a NUMBER 0 .. 15, K: 0 .. 7)";
        orders("shift music 0 if 1 = 2", -1);
        orders("shift music 15 if 1 = 2", -1);
        orders("shift music 16 if 1 = 2", 12);
        orders("shift music 1001 if 1 = 2", 12);
        orders("shift music 0015 if 1 = 2", -1);
        orders("shift music [1] if 1 = 2", 12);
        orders("shift music if 1 = 2", 12);
        orders("shift owner 0 if 1 = 2", -1);
        orders("shift owner 7 if 1 = 2", -1);
        orders("shift owner 8 if 1 = 2", 12);
        orders("shift owner day if 1 = 2", 12);
        KeyHouses x = new KeyHouses();
        x.house(1, 1);
        x.house(1, 1);
        Check.set(x, 0, 3);
        Check.set(x, 15, 200);
        x.give(0, 0);
        x.give(7, 1);
        due("music 0, music 15", Check.orders(x, "pass if music 0 = 3; pass if music 15 = 200; pass if music 1 = 0"), 3);
        due("owners", Check.orders(x, "pass if owner 0 = 0; pass if owner 7 = 1; pass if owner 3 = 0 - 1"), 3);
        for (int beat = 0; beat < 16; beat++) {
            Check.set(x, beat, 100 + beat);
        }
        for (int beat = 0; beat < 16; beat++) {
            due("music " + beat, Check.orders(x, "pass if music " + beat + " = " + (100 + beat)), 1);
        }
        for (int key = 0; key < 8; key++) {
            for (int house = 1; house >= -1; house--) {
                x.give(key, house);
                due("owner " + key, Check.orders(x, "pass if owner " + key + " + 1 = " + (house + 1)), 1);
            }
        }
    }

    private static void ifEachTime() {
        sentence = "II. each time its \"if\" is asked (not run, if it is not so or BROKEN), then its SUMS from the left";
        KeyHouses x = new KeyHouses();
        due("until it is no more so", Check.orders(x, "pass times 20 if day < 7"), 7);
        due("every other", Check.orders(x, "note done % 8 at day % 16 times 4 if music 0 = 0 or 1 = 1; pass times 2 if notes % 2 = 0"), 6);
        due("broken", Check.orders(x, "pass if 1 / 0 = 1"), 0);
        due("the sum is not asked, if it is not so", Check.orders(x, "note 1 / 0 at 0 if 1 = 2"), 0);
        due("nor if it is broken", Check.orders(x, "note 99 at 99 if 1 / 0 = 1; pass"), 1);
        due("sums asked each time", Check.orders(x, "pass times 3 if music 5 = 0; note day - 8 at 5 times 2"), 5);
    }

    private static void done() {
        sentence = "II. done: how many were run in this TEXT";
        KeyHouses x = new KeyHouses();
        due("from 0", Check.orders(x, "note done at 0 times 3; note done at 1 if 1 = 2; note done at 2"), 4);
        due("0, 1, 2", x.music(0), 7);
        due("not run is not counted", x.music(2), 8);
        due("in this text", Check.orders(x, "note done at 3"), 1);
        due("from 0 again", x.music(3), 1);
    }

    private static void latest() {
        sentence = "II. latest: what the latest shift in it told (-1: none)";
        KeyHouses x = new KeyHouses();
        due("none, then of no notes", Check.orders(x, "pass if latest = 0 - 1; shift 3; pass if latest = 0"), 3);
        Check.set(x, 2, 3);
        Check.set(x, 3, 2);
        due("how many notes", Check.orders(x, "shift 5; note 0 at 9 if latest = 3; shift 1; note 0 at 9 if latest = 4"), 4);
        due("in this text", Check.orders(x, "note 5 at 10 if latest = 0 - 1"), 1);
        due("music(9)", x.music(9), 3);
        due("music(10)", x.music(10), 32);
    }

    private static void drillAndNotes() {
        sentence = "II. drill: as drill() tells, notes: how many there are at all BEATS together";
        KeyHouses x = new KeyHouses();
        x.house(1, 1);
        due("16: none", Check.orders(x, "pass if drill = 16 and notes = 0"), 1);
        due("as it comes", Check.orders(x, "note 1 at 4; pass if drill = 4; note 1 at 3; pass if drill = 3 and notes = 2; give 1 to 0;"
            + "pass if drill = 16; note 2 at 15; pass if drill = 15 and notes = 3"), 8);
        due("drill()", x.drill(), 15);
    }

    private static void cannot(KeyHouses x, String text, int clause) {
        due(text, Check.orders(x, text), -3);
        due("stopped() by " + text, x.stopped(), clause);
    }

    private static void cannotBe() {
        sentence = "II. One that can't be (a BROKEN SUM, as note(), give(), shift(), pass() are REFUSED) ends it";
        KeyHouses x = new KeyHouses();
        x.house(1, 1);
        x.terms(0, 998);
        Check.set(x, 0, 129);
        for (String sum : new String[] {"1 / 0", "1 % 0", "1000 * 1000 * 1000 + 1", "0 - 1000 * 1000 * 1000 - 1"}) {
            cannot(x, "note " + sum + " at 0", 0);
            cannot(x, "note 0 at " + sum, 0);
            cannot(x, "give " + sum + " to 0", 0);
            cannot(x, "give 0 to " + sum, 0);
            cannot(x, "shift " + sum, 0);
        }
        cannot(x, "note 8 at 0", 0);
        cannot(x, "note 0 - 1 at 0", 0);
        cannot(x, "note 0 at 16", 0);
        cannot(x, "note 0 at 0 - 1", 0);
        cannot(x, "give 8 to 0", 0);
        cannot(x, "give 0 - 1 to 0", 0);
        cannot(x, "give 0 to 1", 0);
        cannot(x, "give 0 to 0 - 2", 0);
        cannot(x, "give 0 to 0 - 1", 0);
        cannot(x, "give 0 to 0; give 0 to 0", 1);
        cannot(x, "shift 0", 0);
        cannot(x, "shift 8", 0);
        cannot(x, "shift 0 - 8", 0);
        cannot(x, "shift 1", 0);
        cannot(x, "shift 0 - 1", 0);
        cannot(x, "pass; pass", 1);
        cannot(x, "pass times 2", 0);
        cannot(x, Check.repeat("pass if 1 = 2;", 11) + "shift 0", 11);
        cannot(x, "note 1 at 1; shift 0; shift 8", 1);
        due("how many were refused by -3", x.count(8), 20 + 19);
        due("by -1 none", x.count(6), 0);
        due("by -2 none", x.count(7), 0);
    }

    private static void asItWas() {
        sentence = "II. all is as it was ahead of it";
        KeyHouses x = new KeyHouses();
        x.house(1, 1);
        x.give(1, 0);
        x.note(1, 1);
        x.pass();
        cannot(x, "note 2 at 1; note 1 at 1; note 3 at 7; give 1 to 0 - 1; give 2 to 0; shift 4; pass times 20; shift 4", 7);
        due("music(1)", x.music(1), 2);
        due("music(7)", x.music(7), 0);
        due("owner(1)", x.owner(1), 0);
        due("owner(2)", x.owner(2), -1);
        due("day", x.count(12), 1);
        due("what can be undone", x.count(4), 3);
        due("the tape", x.count(5), 0);
        due("a day", x.undo(), 3);
        due("a note", x.undo(), 0);
        due("a key", x.undo(), 1);
        due("no more", x.undo(), -3);
        for (int i = 0; i < 16; i++) {
            x.note(i % 8, i / 8);
        }
        cannot(x, "pass times 20; note 0 at 5; shift 0", 2);
        due("all 16 can be undone", x.count(4), 16);
        for (int i = 15; i >= 0; i--) {
            due("undo()", x.undo(), 0);
            due("the note", x.music(i / 8) >> i % 8 & 1, 0);
        }
        due("no more", x.undo(), -3);
        asItWasAheadOfTheMost();
    }

    private static void asItWasAheadOfTheMost() {
        KeyHouses x = new KeyHouses();
        x.terms(0, 999 - 239);
        for (int i = 0; i < 16; i++) {
            x.note(i % 8, i / 8);
        }
        cannot(x, Check.repeat("pass times 20;", 11) + "pass times 20", 11);
        due("239 days that passed", x.count(12), 999 - 239);
        due("all 16 can be undone", x.count(4), 16);
        for (int i = 15; i >= 0; i--) {
            due("undo()", x.undo(), 0);
            due("the note", x.music(i / 8) >> i % 8 & 1, 0);
        }
        due("no more", x.undo(), -3);
        x.terms(0, 999 - 240);
        due("240 of them can be", Check.orders(x, Check.repeat("pass times 20;", 11) + "pass times 20"), 240);
        due("day", x.count(12), 999);
        due("16 are kept", x.count(4), 16);
    }
}
