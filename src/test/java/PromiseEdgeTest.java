/** Promises 1 to 42, sentence by sentence: each edge that a promise names. */
public final class PromiseEdgeTest {
    private static final Check check = new Check();
    private static final int MIN = Integer.MIN_VALUE;
    private static final int MAX = Integer.MAX_VALUE;

    private static int promise;

    public static void main(String[] args) {
        newObject();
        house();
        of();
        ownerAndMusic();
        asks();
        terms();
        feed();
        end();
        row();
        creaks();
        law();
        orders();
        fault();
        stopped();
        force();
        note();
        give();
        shift();
        pass();
        undo();
        undoneByOrders();
        nothingAheadOf();
        drillAndLeast();
        whoWaysMight();
        cover();
        run();
        best();
        motif();
        find();
        owesAndSettled();
        few();
        compare();
        evenings();
        drawn();
        imageAndBack();
        count();
        countsRefused();
        status();
        othersTellNoStatus();
        calls512();
        check.close("PromiseEdgeTest");
    }

    private static void due(String call, long got, long want) {
        check.due(promise, call, got, want);
    }

    private static void newObject() {
        promise = 1;
        KeyHouses x = new KeyHouses();
        int[] counts = {0, 0, 0, 0, 0, 0, 0, 0, 0, 0, 0, -1, 0, 1, 0};
        for (int what = 0; what < counts.length; what++) {
            due("count(" + what + ")", x.count(what), counts[what]);
        }
        due("of(0, 0)", x.of(0, 0), -1);
        due("give(0, 0)", x.give(0, 0), -2);
        due("two objects are two streets", new KeyHouses().house(1, 1) + x.house(1, 1), 0);
    }

    private static void house() {
        promise = 2;
        KeyHouses x = new KeyHouses();
        x.note(0, 0);
        due("a number that can't be", x.house(0, 0), -1);
        due("it is no house", x.count(0), 0);
        due("and undoes nothing", x.count(4), 1);
        for (int i = 0; i < 6; i++) {
            due("its number", x.house(8, 7), i);
        }
        x.note(0, 0);
        due("no room", x.house(8, 7), -5);
        due("and undoes nothing", x.count(4), 1);
        due("count(0)", x.count(0), 6);
    }

    private static void of() {
        promise = 3;
        KeyHouses x = new KeyHouses();
        x.house(8, 7);
        x.house(1, 0);
        for (int key = 0; key <= 7; key++) {
            x.give(key, 1);
        }
        due("hands", x.of(0, 0), 8);
        due("reach", x.of(0, 1), 7);
        due("no keys", x.of(0, 2), 0);
        due("all keys", x.of(1, 2), 255);
        x.give(7, 0);
        due("the last", x.of(0, 2), 128);
        due("all but the last", x.of(1, 2), 127);
        for (int what : new int[] {-1, 3, MIN, MAX}) {
            due("of(0, " + what + ")", x.of(0, what), -1);
        }
        due("of(2, 0)", x.of(2, 0), -1);
        due("of(-1, 2): nobody's keys are not told", x.of(-1, 2), -1);
    }

    private static void ownerAndMusic() {
        promise = 4;
        KeyHouses x = new KeyHouses();
        x.house(1, 1);
        x.give(7, 0);
        due("owner(7)", x.owner(7), 0);
        due("nobody", x.owner(6), -1);
        due("no such key", x.owner(8), -1);
        due("no such key", x.owner(-1), -1);
        promise = 5;
        x.note(7, 15);
        due("music(15)", x.music(15), 128);
        due("no keys", x.music(14), 0);
        due("no such beat", x.music(16), -1);
        due("no such beat", x.music(-1), -1);
    }

    private static void asks() {
        promise = 6;
        KeyHouses x = new KeyHouses();
        x.house(1, 1);
        x.give(7, 0);
        due("minded", x.asks(0, 7, 15, 0), 1);
        due("it can", x.asks(0, 7, 15, 1), 1);
        due("it can't", x.asks(0, 6, 15, 1), 0);
        due("minded, though it can't", x.asks(0, 6, 15, 0), 1);
        for (int what : new int[] {-1, 2, MIN, MAX}) {
            due("what " + what, x.asks(0, 7, 15, what), -1);
        }
        due("no such house", x.asks(1, 7, 15, 1), -1);
        due("no such house", x.asks(-1, 6, 15, 1), -1);
        due("no such key", x.asks(0, 8, 15, 1), -1);
        due("no such key", x.asks(0, -1, 15, 1), -1);
        due("no such beat", x.asks(0, 7, 16, 1), -1);
        due("no such beat", x.asks(0, 7, -1, 1), -1);
        due("whether or not it is in the music", x.music(15), 0);
    }

    private static void terms() {
        promise = 7;
        KeyHouses x = new KeyHouses();
        due("what it was", x.terms(1, 4), 1);
        due("what it was", x.terms(1, 4), 4);
        due("a number that can't be", x.terms(1, 11), -1);
        due("it is as it was", x.count(13), 4);
        due("no such term", x.terms(3, 0), -1);
        due("no such term", x.terms(-1, 0), -1);
        due("the others", x.count(12) + x.count(14), 0);
    }

    private static void feed() {
        promise = 8;
        KeyHouses x = new KeyHouses();
        due("twenty", x.feed(0x00FF01FE, 0x02800301, 0x04AA0555, 0x06000701, 0x08FF09FF), 20);
        due("as a row", x.row(), 10);
        int[] sets = {255, 254, 128, 1, 170, 85, 0, 1, 255, 255};
        for (int beat = 0; beat < sets.length; beat++) {
            due("four of each number, the highest first, beat " + beat, x.music(beat), sets[beat]);
        }
        due("below 0", x.feed(-1, MIN, -1, -1, -1), 20);
        due("bytes 255 and 128 are no beats", x.row(), 1);
        due("but 0 is", x.music(0), 0);
        due("twenty", x.feed(0, 0, 0, 0, 0), 20);
        due("behind it", x.feed(0x0F0F0F0F, 0x0F0F0F0F, 0x0F0F0F0F, 0x0F0F0F0F, 0x0F0F0F0F), 40);
        x.end(22);
        due("the first twenty and two", x.row(), 11);
        due("music(15)", x.music(15), 15);
        Check.tape(x, new byte[380]);
        due("just 400", x.feed(0, 0, 0, 0, 0), 400);
        due("more than 400", x.feed(0, 0, 0, 0, 0), -1);
        due("nothing came", x.count(5), 400);
        x.end(381);
        due("401", x.feed(0, 0, 0, 0, 0), -1);
        due("nothing came", x.count(5), 381);
        due("not refused", x.count(6) + x.count(9), 0);
    }

    private static void end() {
        promise = 9;
        KeyHouses x = new KeyHouses();
        due("an empty tape, end(0)", x.end(0), 0);
        due("an empty tape, end(1)", x.end(1), -1);
        due("end(-1)", x.end(-1), -1);
        x.feed(0x01010202, 0x03030404, 0, 0, 0);
        due("end(21)", x.end(21), -1);
        due("end(max)", x.end(MAX), -1);
        due("end(min)", x.end(MIN), -1);
        due("as it was", x.count(5), 20);
        due("all of it", x.end(20), 20);
        due("end(3)", x.end(3), 3);
        due("end(4): it has not so many", x.end(4), -1);
        x.feed(0x05060708, 0, 0, 0, 0);
        x.end(7);
        due("1 1, 2 5, 6 7, 8", x.row(), 3);
        due("beat 1", x.music(1), 1);
        due("beat 2", x.music(2), 5);
        due("beat 6", x.music(6), 7);
        due("8 alone", x.creaks(), 1);
        due("end(0)", x.end(0), 0);
    }

    private static void row() {
        promise = 10;
        KeyHouses x = new KeyHouses();
        x.note(3, 3);
        due("empty", x.row(), -6);
        due("the music is as it was", x.music(3), 8);
        due("what can be undone, too", x.count(4), 1);
        Check.tape(x, new byte[] {99, 99});
        due("none told", x.row(), 0);
        due("the tape is empty", x.count(5), 0);
        due("it was not refused", x.status(), 0);
        due("nothing can be undone", x.count(4), 0);
        byte[] all = new byte[32];
        for (int beat = 0; beat < 16; beat++) {
            all[2 * beat] = (byte) beat;
            all[2 * beat + 1] = (byte) (255 - beat);
        }
        Check.tape(x, all);
        due("all beats", x.row(), 16);
        for (int beat = 0; beat < 16; beat++) {
            due("music(" + beat + ")", x.music(beat), 255 - beat);
        }
    }

    private static void creaks() {
        promise = 11;
        KeyHouses x = new KeyHouses();
        due("ahead of any", x.creaks(), 0);
        due("refused", x.row(), -6);
        due("ahead of any that was not refused", x.creaks(), 0);
        Check.tape(x, new byte[] {16, 0, 17, 0, 1});
        x.row();
        due("three", x.creaks(), 3);
        due("refused", x.row(), -6);
        due("of the latest that was not refused", x.creaks(), 3);
        Check.tape(x, new byte[] {1, 1});
        x.row();
        due("none", x.creaks(), 0);
    }

    private static void law() {
        promise = 12;
        KeyHouses x = new KeyHouses();
        due("an empty tape", x.law(), -6);
        due("its fault", x.fault(), 0);
        due("blanks alone", Check.law(x, "     "), -6);
        due("its fault", x.fault(), 5);
        due("the tape is empty", x.count(5), 0);
        due("a fault", Check.law(x, "lends lends"), -6);
        due("the tape is empty", x.count(5), 0);
        due("no law", x.count(3), 0);
        x.note(0, 0);
        for (int i = 0; i < 6; i++) {
            due("its number", Check.law(x, "lends"), i);
            due("the tape is empty", x.count(5), 0);
        }
        due("ahead of reading it", Check.law(x, "lends lends"), -5);
        due("the tape is empty then, too", x.count(5), 0);
        due("not read", x.fault(), -1);
        due("count(3)", x.count(3), 6);
        due("what can be undone stays", x.count(4), 1);
        due("not in force by itself", x.count(11), -1);
    }

    private static void orders() {
        promise = 13;
        KeyHouses x = new KeyHouses();
        due("an empty tape", x.orders(), -6);
        due("its fault", x.fault(), 0);
        due("blanks alone", Check.orders(x, "     "), -6);
        due("its fault", x.fault(), 5);
        due("the tape is empty", x.count(5), 0);
        due("a fault in the last: none is run", Check.orders(x, "pass; pass; pass pass"), -6);
        due("the day", x.count(12), 0);
        due("the tape is empty", x.count(5), 0);
        due("one can't be: none is run", Check.orders(x, "pass; pass; shift 0"), -3);
        due("the day", x.count(12), 0);
        due("the tape is empty", x.count(5), 0);
        due("all are run", Check.orders(x, "pass; pass"), 2);
        due("the day", x.count(12), 2);
        due("the tape is empty", x.count(5), 0);
        due("none is run", Check.orders(x, "pass if 1 = 2"), 0);
        due("it was not refused", x.status(), 0);
        for (int i = 0; i < 6; i++) {
            Check.law(x, "lends");
        }
        due("six laws are no matter", Check.orders(x, "pass"), 1);
        due("nothing but changes: what was undone", x.count(4), 3);
    }

    private static void fault() {
        promise = 14;
        KeyHouses x = new KeyHouses();
        due("ahead of any", x.fault(), -1);
        Check.law(x, "lends lends");
        due("of law()", x.fault(), 6);
        Check.orders(x, "pass  pass");
        due("of orders()", x.fault(), 6);
        Check.orders(x, "pass pass");
        due("of orders()", x.fault(), 5);
        Check.orders(x, "shift 0");
        due("without, though one can't be", x.fault(), -1);
        Check.law(x, "?");
        due("at the first", x.fault(), 0);
        Check.law(x, "lends");
        due("without", x.fault(), -1);
        Check.orders(x, "pass ?");
        for (int i = 0; i < 5; i++) {
            Check.law(x, "lends");
        }
        Check.orders(x, "pass ?");
        x.law();
        due("law() that read nothing", x.fault(), 5);
        Check.tape(x, "lends lends lends");
        x.row();
        due("row() reads no text", x.fault(), 5);
    }

    private static void stopped() {
        promise = 15;
        KeyHouses x = new KeyHouses();
        due("ahead of any", x.stopped(), -1);
        Check.orders(x, "shift 0");
        due("the first", x.stopped(), 0);
        Check.orders(x, Check.repeat("pass;", 11) + "shift 0");
        due("the twelfth", x.stopped(), 11);
        Check.law(x, "lends");
        Check.law(x, "nonsense");
        due("law() is no matter", x.stopped(), 11);
        Check.orders(x, "pass");
        due("none", x.stopped(), -1);
        Check.orders(x, "pass; shift 0");
        due("the second", x.stopped(), 1);
        Check.orders(x, "nonsense");
        due("none was run", x.stopped(), -1);
        Check.orders(x, "pass times 3; shift 0 if day < 0; pass; note 0 at 99 times 20");
        due("by clauses, not by times", x.stopped(), 3);
    }

    private static void force() {
        promise = 16;
        KeyHouses x = new KeyHouses();
        due("none, which was", x.force(-1), -1);
        due("it was not refused", x.status(), 0);
        due("no such law", x.force(0), -2);
        Check.law(x, "lends");
        due("no such law", x.force(1), -2);
        due("no such law", x.force(-2), -2);
        due("no such law", x.force(MIN), -2);
        due("no such law", x.force(MAX), -2);
        due("as it was", x.count(11), -1);
        due("the first", x.force(0), -1);
        due("the same again", x.force(0), 0);
        due("none", x.force(-1), 0);
        due("count(11)", x.count(11), -1);
    }

    private static void note() {
        promise = 17;
        KeyHouses x = new KeyHouses();
        due("the set then", x.note(7, 0), 128);
        due("the set then", x.note(0, 0), 129);
        due("the set then", x.note(7, 0), 1);
        due("none", x.note(0, 0), 0);
        due("note(8, 0)", x.note(8, 0), -1);
        due("note(-1, 0)", x.note(-1, 0), -1);
        due("note(0, 16)", x.note(0, 16), -1);
        due("note(0, -1)", x.note(0, -1), -1);
        due("what can be undone", x.count(4), 4);
    }

    private static void give() {
        promise = 18;
        KeyHouses x = new KeyHouses();
        x.house(1, 1);
        x.house(1, 1);
        due("nobody was", x.give(0, 0), 6);
        due("house 0 was", x.give(0, 1), 0);
        due("it is so already", x.give(0, 1), -3);
        due("to nobody", x.give(0, -1), 1);
        due("it is so already", x.give(0, -1), -3);
        due("no such house", x.give(0, 2), -2);
        due("no such house", x.give(0, -2), -2);
        due("no such key", x.give(8, 0), -1);
        due("no such key, no such house", x.give(8, 2), -1);
        due("no such key, nobody", x.give(-1, -1), -1);
        due("what can be undone", x.count(4), 3);
    }

    private static void shift() {
        promise = 19;
        KeyHouses x = new KeyHouses();
        due("no notes", x.shift(7), 0);
        due("no notes", x.shift(-7), 0);
        due("0", x.shift(0), -1);
        due("8", x.shift(8), -1);
        due("-8", x.shift(-8), -1);
        due("min", x.shift(MIN), -1);
        due("max", x.shift(MAX), -1);
        due("what can be undone", x.count(4), 2);
        x.note(0, 0);
        x.note(0, 15);
        due("how many notes there are", x.shift(7), 2);
        due("it can't be", x.shift(1), -3);
        due("back", x.shift(-7), 2);
        due("it can't be", x.shift(-1), -3);
        due("what can be undone", x.count(4), 6);
        due("music(15)", x.music(15), 1);
    }

    private static void pass() {
        promise = 20;
        KeyHouses x = new KeyHouses();
        due("its number", x.pass(), 1);
        x.terms(0, 999);
        due("it can't be", x.pass(), -3);
        due("nothing can be undone", x.count(4), 0);
        x.terms(0, 998);
        due("the last", x.pass(), 999);
        due("undone", x.undo(), 3);
        due("the last again", x.pass(), 999);
        due("it can't be", x.pass(), -3);
    }

    private static void undo() {
        promise = 21;
        KeyHouses x = new KeyHouses();
        due("there is none", x.undo(), -3);
        x.house(1, 1);
        due("there is none", x.undo(), -3);
        x.note(8, 8);
        x.give(0, -1);
        x.shift(0);
        due("what was refused is not undone", x.undo(), -3);
        x.note(0, 0);
        x.give(0, 0);
        x.shift(1);
        x.pass();
        for (int kind = 3; kind >= 0; kind--) {
            due("the latest first", x.undo(), kind);
        }
        due("all is as it was", x.music(0) + x.owner(0) + x.count(12), -1);
        due("no more", x.undo(), -3);
        for (int i = 0; i < 16; i++) {
            x.pass();
        }
        due("16", x.count(4), 16);
        x.note(0, 0);
        due("16 are kept", x.count(4), 16);
        due("the latest", x.undo(), 0);
        for (int i = 0; i < 15; i++) {
            due("a day", x.undo(), 3);
        }
        due("the 17th is not kept", x.undo(), -3);
        due("day", x.count(12), 1);
        x.note(5, 5);
        x.undo();
        x.note(6, 6);
        due("what was undone is not kept", x.count(4), 1);
        due("the latest", x.undo(), 0);
        due("music", x.music(5) + x.music(6), 0);
    }

    private static void undoneByOrders() {
        promise = 21;
        KeyHouses x = new KeyHouses();
        x.house(1, 1);
        x.note(2, 2);
        Check.orders(x, "note 3 at 3; give 4 to 0; shift 1; pass times 2");
        due("ahead of them and by them", x.count(4), 6);
        int[] kinds = {3, 3, 2, 1, 0, 0};
        for (int kind : kinds) {
            due("one by one", x.undo(), kind);
        }
        due("no more", x.undo(), -3);
        x.note(2, 2);
        Check.orders(x, "pass times 15");
        due("1 and 15", x.count(4), 16);
        Check.orders(x, "note 1 at 1; pass times 20; note 0 at 1");
        due("16 are kept", x.count(4), 16);
        due("a note", x.undo(), 0);
        for (int i = 0; i < 15; i++) {
            due("a day", x.undo(), 3);
        }
        due("no more", x.undo(), -3);
        due("day", x.count(12), 20);
        due("music(1)", x.music(1), 2);
    }

    private static void nothingAheadOf() {
        promise = 21;
        KeyHouses x = new KeyHouses();
        x.note(1, 1);
        x.house(0, 0);
        x.terms(0, -1);
        x.row();
        x.back(0);
        x.back(7);
        Check.law(x, "lends");
        x.force(0);
        x.force(9);
        x.motif(1);
        x.forget();
        x.image(0);
        Check.orders(x, "nonsense");
        Check.orders(x, "shift 0");
        x.evenings(0, 1);
        due("these leave it", x.count(4), 1);
        x.house(1, 1);
        due("house()", x.count(4), 0);
        due("undo()", x.undo(), -3);
        x.note(1, 1);
        x.evenings(0, 1);
        due("evenings() leave it", x.count(4), 1);
        x.terms(2, 0);
        due("terms(), though it was so", x.undo(), -3);
        x.note(1, 1);
        Check.tape(x, new byte[] {1});
        x.row();
        due("row(), though it told nothing", x.undo(), -3);
        x.note(1, 1);
        x.back(0);
        due("back()", x.undo(), -3);
        x.pass();
        due("what comes behind can be", x.undo(), 3);
    }

    private static void drillAndLeast() {
        promise = 22;
        KeyHouses x = new KeyHouses();
        due("none", x.drill(), 16);
        x.note(0, 15);
        due("15", x.drill(), 15);
        x.note(0, 0);
        due("0", x.drill(), 0);
        promise = 23;
        due("it can't be had", x.least(0), -1);
        due("no keys", x.least(1), 0);
        due("not all", x.least(-1), -1);
        due("no such beat", x.least(16), -1);
        due("no such beat", x.least(-2), -1);
        due("no such beat", x.least(MIN), -1);
        x.house(1, 0);
        x.give(0, 0);
        due("of all", x.least(-1), 2);
        due("of one", x.least(15), 1);
        due("no such beat", x.least(16), -1);
    }

    private static void whoWaysMight() {
        KeyHouses x = Check.lending(2, 1, 7);
        Check.set(x, 15, 129);
        Check.set(x, 14, 7);
        promise = 24;
        due("who(15, 0)", x.who(15, 0), 0);
        due("who(15, 7)", x.who(15, 7), 1);
        due("it is not there", x.who(15, 1), -1);
        due("there is none", x.who(14, 0), -1);
        due("no such beat", x.who(16, 0), -1);
        due("no such beat", x.who(-1, 0), -1);
        due("no such key", x.who(15, 8), -1);
        due("no such key", x.who(15, -1), -1);
        promise = 25;
        due("ways(15)", x.ways(15), 2);
        due("ways(14)", x.ways(14), 0);
        due("ways(0)", x.ways(0), 1);
        due("no such beat", x.ways(16), -1);
        due("no such beat", x.ways(-1), -1);
        promise = 26;
        due("might(15, 0)", x.might(15, 0), 3);
        due("it is not there", x.might(15, 1), 0);
        due("there is none", x.might(14, 0), 0);
        due("no such beat", x.might(16, 0), -1);
        due("no such beat", x.might(-1, 0), -1);
        due("no such key", x.might(15, 8), -1);
        due("no such key", x.might(15, -1), -1);
        KeyHouses y = Check.lending(6, 8, 7);
        Check.set(y, 0, 255);
        due("all six", y.might(0, 7), 63);
        due("all ways", y.ways(0), 1679616);
        // House 1 alone can play the other key, and has one hand: it can play each, but this one in no way.
        for (int key = 0; key <= 7; key++) {
            int other = (key + 3) % 8;
            KeyHouses z = new KeyHouses();
            z.house(8, 7);
            z.house(1, 7);
            z.give(key, 0);
            z.give(other, 1);
            z.force(Check.law(z, "lends if house = 1"));
            z.note(key, 3);
            due("alone it might", z.might(3, key), 3);
            z.note(other, 3);
            due("who is left for it", z.might(3, key), 1);
            due("who is bound by the other", z.might(3, other), 2);
            due("asked alone it can", z.asks(1, key, 3, 1), 1);
        }
    }

    private static void cover() {
        promise = 27;
        KeyHouses x = Check.lending(6, 1, 0);
        due("no houses", x.cover(0) + x.cover(1), 0);
        Check.set(x, 0, 63);
        due("all", x.cover(0), 6);
        due("all", x.cover(1), 63);
        Check.set(x, 15, 255);
        due("not by all", x.cover(0), -1);
        due("not by all", x.cover(1), -1);
        for (int what : new int[] {-1, 2, MIN, MAX}) {
            due("cover(" + what + "), not by all", x.cover(what), -1);
        }
        Check.set(x, 15, 0);
        for (int what : new int[] {-1, 2, MIN, MAX}) {
            due("cover(" + what + "), by all", x.cover(what), -1);
        }
    }

    private static void run() {
        promise = 28;
        KeyHouses x = Check.lending(2, 1, 0);
        due("by none", x.run(0, 0), 16);
        due("the first", x.run(0, 1), 0);
        due("one there is not", x.run(4, 0), -1);
        due("one there is not", x.run(5, 1), -1);
        due("one there is not", x.run(-1, 0), -1);
        due("one there is not", x.run(MIN, 0), -1);
        due("one there is not", x.run(MAX, 0), -1);
        due("one there is not", x.run(64, 0), -1);
        due("all", x.run(3, 0), 16);
        for (int what : new int[] {-1, 2, MIN, MAX}) {
            due("what " + what, x.run(3, what), -1);
        }
        for (int beat = 0; beat < 16; beat++) {
            Check.set(x, beat, 1);
        }
        due("none", x.run(0, 0), 0);
        due("none", x.run(0, 1), -1);
        due("one", x.run(2, 0), 16);
        due("without houses", new KeyHouses().run(1, 0), -1);
    }

    private static void best() {
        promise = 29;
        KeyHouses x = Check.lending(1, 1, 0);
        due("the shift", x.best(0), -7);
        due("how much", x.best(1), 0);
        Check.set(x, 0, 3);
        due("none", x.best(0), -100);
        due("none", x.best(1), -100);
        for (int what : new int[] {-1, 2, MIN, MAX}) {
            due("best(" + what + "), none", x.best(what), -100);
        }
        Check.set(x, 0, 1);
        due("as it is", x.best(0), 0);
        for (int what : new int[] {-1, 2, MIN, MAX}) {
            due("best(" + what + ")", x.best(what), -100);
        }
    }

    private static void motif() {
        promise = 30;
        KeyHouses x = new KeyHouses();
        due("a number that can't be", x.motif(256), -1);
        due("a number that can't be", x.motif(-1), -1);
        for (int i = 1; i <= 6; i++) {
            due("how many", x.motif(i == 1 ? 255 : 0), i);
        }
        due("no room", x.motif(0), -5);
        due("a number that can't be", x.motif(256), -1);
        due("count(2)", x.count(2), 6);
        promise = 31;
        due("how many it had", x.forget(), 6);
        due("none then", x.count(2), 0);
        due("how many it had", x.forget(), 0);
        due("room again", x.motif(4), 1);
    }

    private static void find() {
        promise = 32;
        KeyHouses x = new KeyHouses();
        due("no motif", x.find(-1), -1);
        due("no motif", x.find(0), -1);
        x.motif(1);
        due("how many: none", x.find(-1), 0);
        due("the first of none", x.find(0), -1);
        x.note(7, 15);
        x.note(0, 0);
        due("how many", x.find(-1), 2);
        due("the first", x.find(0), 7);
        due("the second", x.find(1), 1514);
        due("no third", x.find(2), -1);
        due("others", x.find(-2), -1);
        due("others", x.find(MIN), -1);
        due("others", x.find(MAX), -1);
        x.forget();
        due("no motif any more", x.find(-1), -1);
        x.motif(128);
        due("by -7", x.find(0), 0);
        due("by 0", x.find(1), 1507);
    }

    private static void owesAndSettled() {
        promise = 33;
        KeyHouses x = new KeyHouses();
        due("no such", x.owes(0, 1), -1);
        x.house(1, 0);
        due("no such", x.owes(0, 1), -1);
        due("no such", x.owes(1, 0), -1);
        due("itself", x.owes(0, 0), -1);
        x.house(1, 0);
        due("nothing", x.owes(0, 1), 0);
        due("itself", x.owes(1, 1), -1);
        due("no such", x.owes(-1, 1), -1);
        due("no such", x.owes(1, -1), -1);
        due("no such", x.owes(2, 1), -1);
        due("no such, itself", x.owes(2, 2), -1);
        promise = 34;
        due("nothing", x.settled(), 0);
        due("no house", new KeyHouses().settled(), 0);
        for (int houses = 1; houses <= 6; houses++) {
            KeyHouses y = Check.lending(houses, 8, 7);
            y.note(0, 0);
            due("nobody's key", y.settled(), 0);
            y.give(0, houses - 1);
            due("the first plays the last one's key", y.settled(), houses == 1 ? 0 : 1);
        }
        x.note(0, 15);
        due("it can't be had", x.settled(), -1);
        promise = 33;
        due("it can't be had", x.owes(0, 1), -1);
    }

    private static void few() {
        promise = 35;
        KeyHouses x = new KeyHouses();
        due("k 1, n 0", x.few(1, 0), 1000000000000L);
        due("k 20, n 0", x.few(20, 0), 1000000000000L);
        x.terms(1, 0);
        due("k 1, n 99", x.few(1, 99), 1000000000000L);
        due("k 20, n 99", x.few(20, 99), 1000000000000L);
        for (int k : new int[] {0, 21, -1, MIN, MAX}) {
            due("k " + k, x.few(k, 1), -1);
        }
        for (int n : new int[] {-1, 100, MIN, MAX}) {
            due("n " + n, x.few(1, n), -1);
        }
    }

    private static void compare() {
        promise = 36;
        KeyHouses x = Check.lending(1, 1, 0);
        due("no such law", x.compare(1), -1);
        due("no such law", x.compare(-2), -1);
        due("none", x.compare(-1), 0);
        x.note(0, 0);
        due("it can't be had", x.compare(-1), -1);
        due("it can", x.compare(0), 1);
    }

    private static void evenings() {
        promise = 37;
        KeyHouses x = new KeyHouses();
        due("there are no houses", x.evenings(0, 1), -3);
        due("a number that can't be", x.evenings(0, 0), -1);
        due("a number that can't be", x.evenings(1000001, 60), -1);
        x.house(1, 0);
        due("all", x.evenings(1000000, 1), 1);
        x.note(0, 0);
        x.note(1, 0);
        due("none", x.evenings(7, 3), 0);
        due("a number that can't be", x.evenings(0, 61), -1);
        due("a number that can't be", x.evenings(-1, 60), -1);
        x.terms(0, 999);
        due("none at the last day", x.evenings(7, 3), 0);
        due("it was not refused", x.status(), 0);
    }

    private static void drawn() {
        promise = 38;
        KeyHouses x = new KeyHouses();
        x.house(1, 0);
        x.give(7, 0);
        x.note(7, 15);
        due("ahead of any", x.drawn(15, 0), -1);
        due("ahead of any", x.drawn(7, 1), -1);
        x.evenings(0, 0);
        due("behind one that was refused", x.drawn(15, 0), -1);
        x.evenings(7, 1);
        due("the set", x.drawn(15, 0), 128);
        due("the owner", x.drawn(7, 1), 0);
        due("nobody", x.drawn(6, 1), -1);
        due("no keys", x.drawn(0, 0), 0);
        due("no such beat", x.drawn(16, 0), -1);
        due("no such beat", x.drawn(-1, 0), -1);
        due("no such key", x.drawn(8, 1), -1);
        due("no such key", x.drawn(-1, 1), -1);
        for (int what : new int[] {-1, 2, MIN, MAX}) {
            due("what " + what, x.drawn(7, what), -1);
        }
        x.note(7, 15);
        x.give(7, -1);
        due("as it was behind them", x.drawn(15, 0), 128);
        due("as it was behind them", x.drawn(7, 1), 0);
        x.evenings(7, 0);
        due("those that were refused are not the latest", x.drawn(15, 0), 128);
        x.evenings(7, 1);
        due("the latest", x.drawn(15, 0), 0);
        due("the latest", x.drawn(7, 1), -1);
    }

    private static void imageAndBack() {
        promise = 39;
        KeyHouses x = new KeyHouses();
        for (int k : new int[] {-1, 2, MIN, MAX}) {
            due("image(" + k + ")", x.image(k), -1);
        }
        promise = 40;
        for (int k : new int[] {-1, 2, MIN, MAX}) {
            due("back(" + k + ")", x.back(k), -1);
        }
        due("it was not kept", x.back(0), -2);
        due("it was not kept", x.back(1), -2);
        x.pass();
        promise = 39;
        due("image(1)", x.image(1), 0);
        promise = 40;
        due("the other was not kept", x.back(0), -2);
        due("nothing went back", x.count(4), 1);
        x.pass();
        due("back(1)", x.back(1), 0);
        due("day", x.count(12), 1);
        x.pass();
        promise = 39;
        due("image(0)", x.image(0), 0);
        promise = 40;
        x.pass();
        due("back(0)", x.back(0), 0);
        due("day", x.count(12), 2);
        due("back(1)", x.back(1), 0);
        due("day", x.count(12), 1);
    }

    private static void count() {
        promise = 41;
        KeyHouses x = new KeyHouses();
        x.house(1, 1);
        x.house(1, 1);
        for (int i = 0; i < 3; i++) {
            Check.law(x, "lends");
        }
        x.force(2);
        for (int i = 0; i < 5; i++) {
            x.motif(0);
        }
        x.terms(0, 77);
        x.terms(1, 8);
        x.terms(2, 6);
        Check.set(x, 0, 255);
        Check.set(x, 15, 129);
        x.note(3, 3);
        x.pass();
        x.feed(0, 0, 0, 0, 0);
        int[] due = {2, 11, 5, 3, 2, 20, 0, 0, 0, 0, 0, 2, 78, 8, 6};
        for (int what = 0; what < due.length; what++) {
            due("count(" + what + ")", x.count(what), due[what]);
        }
        for (int what : new int[] {-1, 15, MIN, MAX}) {
            due("count(" + what + ")", x.count(what), -1);
        }
    }

    private static void countsRefused() {
        promise = 41;
        KeyHouses x = new KeyHouses();
        x.back(0);
        x.force(5);
        x.give(0, 5);
        due("by -2", x.count(7), 3);
        x.house(0, 0);
        x.terms(9, 9);
        x.note(9, 9);
        x.give(9, 9);
        x.shift(9);
        x.motif(-9);
        x.evenings(-9, 9);
        x.image(9);
        x.back(9);
        due("by -1", x.count(6), 9);
        x.evenings(0, 1);
        x.undo();
        x.give(0, -1);
        x.note(0, 0);
        x.shift(-1);
        x.terms(0, 999);
        x.pass();
        Check.orders(x, "pass");
        due("by -3", x.count(8), 6);
        x.row();
        x.law();
        x.orders();
        due("by -6", x.count(10), 3);
        for (int i = 0; i < 7; i++) {
            x.house(1, 1);
            x.motif(1);
            Check.law(x, "lends");
        }
        due("by -5", x.count(9), 3);
        x.image(0);
        x.note(9, 9);
        x.back(0);
        due("images do not keep that", x.count(6), 10);
        x.image(1);
        due("nor do they begin anew", x.count(6), 10);
        x.note(0, 0);
        due("a set without keys is not refused", x.note(0, 0) + x.note(0, 0), 1);
        x.back(0);
        x.note(0, 0);
        due("0 notes are not refused", x.shift(1), 0);
        x.give(0, 0);
        due("house 0 was, that is not refused", x.give(0, 1), 0);
        due("0 orders are not refused", Check.orders(x, "pass if 1 = 2"), 0);
        due("each by one alone", x.count(7) * 1000 + x.count(8) * 100 + x.count(9) * 10 + x.count(10), 3633);
    }

    private static void told(KeyHouses x, String call, int answer, int status) {
        if (status < 0) {
            due(call, answer, status);
        }
        due("status() behind " + call, x.status(), status);
    }

    private static void status() {
        promise = 42;
        KeyHouses x = new KeyHouses();
        due("ahead of any", x.status(), 0);
        told(x, "house(0, 1)", x.house(0, 1), -1);
        told(x, "house(1, 1)", x.house(1, 1), 0);
        told(x, "terms(0, -1)", x.terms(0, -1), -1);
        told(x, "terms(0, 1)", x.terms(0, 1), 0);
        told(x, "row()", x.row(), -6);
        Check.tape(x, new byte[] {1, 1});
        told(x, "row()", x.row(), 0);
        told(x, "law()", x.law(), -6);
        told(x, "law()", Check.law(x, "lends"), 0);
        told(x, "orders()", x.orders(), -6);
        told(x, "orders()", Check.orders(x, "pass"), 0);
        told(x, "orders()", Check.orders(x, "shift 0"), -3);
        told(x, "force(0)", x.force(0), 0);
        told(x, "force(1)", x.force(1), -2);
        told(x, "force(-1)", x.force(-1), 0);
        told(x, "note(8, 0)", x.note(8, 0), -1);
        told(x, "note(7, 0)", x.note(7, 0), 0);
        told(x, "give(0, 1)", x.give(0, 1), -2);
        told(x, "give(0, 0)", x.give(0, 0), 0);
        told(x, "give(0, 0)", x.give(0, 0), -3);
        told(x, "undo()", x.undo(), 0);
        told(x, "shift(1)", x.shift(1), -3);
        told(x, "pass()", x.pass(), 0);
        told(x, "shift(0)", x.shift(0), -1);
        told(x, "motif(0)", x.motif(0), 0);
        told(x, "motif(-1)", x.motif(-1), -1);
        told(x, "evenings(7, 1)", x.evenings(7, 1), 0);
        told(x, "evenings(7, 0)", x.evenings(7, 0), -1);
        told(x, "image(0)", x.image(0), 0);
        told(x, "image(2)", x.image(2), -1);
        told(x, "back(0)", x.back(0), 0);
        told(x, "undo()", x.undo(), -3);
        x.terms(0, 999);
        told(x, "pass()", x.pass(), -3);
        told(x, "force(0), which was none", x.force(0), 0);
        told(x, "back(1)", x.back(1), -2);
        for (int i = 1; i < 6; i++) {
            x.motif(0);
            Check.law(x, "lends");
            x.house(1, 1);
        }
        told(x, "motif(0)", x.motif(0), -5);
        x.pass();
        told(x, "law()", x.law(), -5);
        x.pass();
        told(x, "house(1, 1)", x.house(1, 1), -5);
        told(x, "note(0, 0)", x.note(0, 0), 0);
    }

    private static void others(KeyHouses x) {
        x.of(9, 9);
        x.owner(9);
        x.music(99);
        x.asks(9, 9, 99, 9);
        x.feed(0, 0, 0, 0, 0);
        x.end(999);
        x.end(0);
        x.creaks();
        x.fault();
        x.stopped();
        x.drill();
        x.least(99);
        x.who(99, 9);
        x.ways(99);
        x.might(99, 9);
        x.cover(9);
        x.run(-9, 9);
        x.best(9);
        x.forget();
        x.find(-9);
        x.owes(9, 9);
        x.settled();
        x.few(0, 0);
        x.compare(9);
        x.drawn(99, 9);
        x.count(99);
        x.status();
        for (int i = 0; i < 21; i++) {
            x.feed(0, 0, 0, 0, 0);
        }
    }

    private static void othersTellNoStatus() {
        promise = 42;
        KeyHouses x = new KeyHouses();
        others(x);
        due("status()", x.status(), 0);
        x.undo();
        others(x);
        due("status()", x.status(), -3);
        promise = 41;
        for (int what = 6; what <= 10; what++) {
            due("count(" + what + ")", x.count(what), what == 8 ? 1 : 0);
        }
    }

    private static void calls512() {
        promise = 0;
        KeyHouses x = new KeyHouses();
        for (int call = 1; call <= 512; call++) {
            due("call " + call + " of 512", x.pass(), call);
        }
    }
}
