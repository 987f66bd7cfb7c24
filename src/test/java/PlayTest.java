/** Promises 22 to 38: who plays what, and what follows from it. */
public final class PlayTest {
    private static final Check check = new Check();

    public static void main(String[] args) {
        drills();
        leastMinded();
        firstWays();
        countsWays();
        mights();
        covers();
        runs();
        bestShifts();
        motifs();
        debts();
        settles();
        chances();
        compares();
        evenings();
        eveningsLast();
        check.close("PlayTest");
    }

    /** Houses 0 (two hands, reach 2) and 1 (one hand, reach 7); keys 0 .. 3 of 0, keys 4 .. 7 of 1. */
    private static KeyHouses street() {
        KeyHouses x = new KeyHouses();
        x.house(2, 2);
        x.house(1, 7);
        for (int key = 0; key < 8; key++) {
            x.give(key, key / 4);
        }
        return x;
    }

    private static void set(KeyHouses x, int beat, int keys) {
        Check.tape(x, new byte[] {(byte) beat, (byte) keys});
        x.row();
    }

    private static void drills() {
        KeyHouses x = street();
        check.due(22, "without music", x.drill(), 16);
        set(x, 15, 0b00000101);
        check.due(22, "within its reach", x.drill(), 16);
        set(x, 14, 0b00001001);
        check.due(22, "beyond its reach", x.drill(), 14);
        set(x, 13, 0b00000111);
        check.due(22, "too few hands", x.drill(), 13);
        set(x, 12, 0b00110000);
        check.due(22, "too few hands of another", x.drill(), 12);
        set(x, 11, 0b10000011);
        check.due(22, "by both", x.drill(), 12);
        x.give(0, -1);
        check.due(22, "nobody's key", x.drill(), 11);
        Check.law(x, "lends if beat > 0; bars if day = 1 and key = 2");
        x.force(0);
        set(x, 12, 0);
        check.due(22, "three hands in all", x.drill(), 16);
        x.pass();
        check.due(22, "a day later", x.drill(), 13);
    }

    private static void leastMinded() {
        KeyHouses x = street();
        check.due(23, "no music", x.least(0), 0);
        check.due(23, "no music at all", x.least(-1), 0);
        set(x, 0, 0b00010011);
        set(x, 2, 0b10000000);
        check.due(23, "1 without a law", x.least(0), 3);
        check.due(23, "all together", x.least(-1), 4);
        Check.law(x, "lends; minds 5; minds 20 if owner < house; minds 0 if house = 0 and key = 4");
        x.force(0);
        check.due(23, "keys 0, 1 by 0, key 4 by 1", x.least(0), 15);
        set(x, 1, 0b00011000);
        check.due(23, "keys 3, 4 by 0", x.least(1), 5);
        check.due(23, "all together", x.least(-1), 25);
        set(x, 9, 255);
        check.due(23, "can't be had", x.least(9), -1);
        check.due(23, "not all", x.least(-1), -1);
        check.due(23, "least(16)", x.least(16), -1);
        check.due(23, "least(-2)", x.least(-2), -1);
    }

    private static void firstWays() {
        KeyHouses x = new KeyHouses();
        for (int house = 0; house < 3; house++) {
            x.house(1, 0);
        }
        Check.law(x, "lends; minds 3");
        x.force(0);
        set(x, 4, 0b10010001);
        check.due(24, "the first row", x.who(4, 0), 0);
        check.due(24, "the first row", x.who(4, 4), 1);
        check.due(24, "the first row", x.who(4, 7), 2);
        check.due(24, "a key that is not there", x.who(4, 1), -1);
        check.due(24, "who(16, 0)", x.who(16, 0), -1);
        check.due(24, "who(-1, 0)", x.who(-1, 0), -1);
        check.due(24, "who(4, 8)", x.who(4, 8), -1);
        check.due(24, "who(4, -1)", x.who(4, -1), -1);
        Check.law(x, "lends; minds 3; minds 2 if house = 2 and key = 0");
        x.force(1);
        check.due(24, "least first", x.who(4, 0), 2);
        check.due(24, "then the first row", x.who(4, 4), 0);
        check.due(24, "then the first row", x.who(4, 7), 1);
        Check.law(x, "lends; bars if key = 7 and house = 2; minds house");
        x.force(2);
        check.due(24, "the lowest key's house first", x.who(4, 0), 0);
        check.due(24, "the next one's house", x.who(4, 4), 2);
        check.due(24, "who is left", x.who(4, 7), 1);
        set(x, 5, 15);
        check.due(24, "no way", x.who(5, 0), -1);
    }

    private static void countsWays() {
        KeyHouses x = new KeyHouses();
        for (int house = 0; house < 6; house++) {
            x.house(8, 7);
        }
        Check.law(x, "lends");
        check.due(25, "no music", x.ways(0), 1);
        set(x, 0, 255);
        check.due(25, "nobody can", x.ways(0), 0);
        x.force(0);
        check.due(25, "6 houses, 8 keys", x.ways(0), 1679616);
        check.due(25, "ways(16)", x.ways(16), -1);
        check.due(25, "ways(-1)", x.ways(-1), -1);
        KeyHouses y = new KeyHouses();
        for (int house = 0; house < 6; house++) {
            y.house(2, 1);
        }
        Check.law(y, "lends");
        y.force(0);
        set(y, 0, 0b11111111);
        // A cut into pairs of neighbours and single keys, at most six of these, dealt to six houses:
        // 4 pairs: 1 cut, 360 deals; 3 and 2: 10 cuts, 720 deals; 2 and 4: 15 cuts, 720 deals.
        check.due(25, "pairs of neighbours", y.ways(0), 360 + 25 * 720);
    }

    private static void mights() {
        KeyHouses x = street();
        Check.law(x, "lends if house = 1");
        x.force(0);
        set(x, 0, 0b00001001);
        check.due(26, "either", x.might(0, 0), 3);
        check.due(26, "either", x.might(0, 3), 3);
        check.due(26, "not there", x.might(0, 1), 0);
        set(x, 0, 0b00010001);
        check.due(26, "who is free for it", x.might(0, 0), 1);
        check.due(26, "the other", x.might(0, 4), 2);
        set(x, 0, 0b00110001);
        check.due(26, "no way", x.might(0, 0), 0);
        check.due(26, "might(0, 8)", x.might(0, 8), -1);
        check.due(26, "might(0, -1)", x.might(0, -1), -1);
        check.due(26, "might(16, 0)", x.might(16, 0), -1);
    }

    private static void covers() {
        KeyHouses x = street();
        x.house(8, 7);
        check.due(27, "without music", x.cover(0), 0);
        check.due(27, "without music", x.cover(1), 0);
        set(x, 3, 0b00000001);
        check.due(27, "by one", x.cover(0), 1);
        check.due(27, "by the owner", x.cover(1), 1);
        set(x, 8, 0b00010000);
        check.due(27, "by two", x.cover(0), 2);
        check.due(27, "by both owners", x.cover(1), 3);
        Check.law(x, "lends if house > 0");
        x.force(0);
        check.due(27, "by one", x.cover(0), 1);
        check.due(27, "the lowest", x.cover(1), 2);
        set(x, 9, 0b00111111);
        check.due(27, "by many hands", x.cover(0), 1);
        check.due(27, "by many hands", x.cover(1), 4);
        Check.law(x, "bars if key = 5");
        x.force(1);
        check.due(27, "not by all", x.cover(0), -1);
        check.due(27, "not by all", x.cover(1), -1);
        check.due(27, "cover(2)", x.cover(2), -1);
        check.due(27, "cover(-1)", x.cover(-1), -1);
    }

    private static void runs() {
        KeyHouses x = street();
        set(x, 2, 0b00000001);
        set(x, 5, 0b00010000);
        set(x, 8, 0b00010001);
        set(x, 14, 0b00000001);
        check.due(28, "nobody: 9 .. 13", x.run(0, 0), 5);
        check.due(28, "nobody: 9 .. 13", x.run(0, 1), 9);
        check.due(28, "house 0: 9 .. 15", x.run(1, 0), 7);
        check.due(28, "house 0: 9 .. 15", x.run(1, 1), 9);
        check.due(28, "house 1: 3 .. 7, 9 .. 13, the first", x.run(2, 0), 5);
        check.due(28, "house 1: 3 .. 7, 9 .. 13, the first", x.run(2, 1), 3);
        check.due(28, "both", x.run(3, 0), 16);
        check.due(28, "both", x.run(3, 1), 0);
        check.due(28, "run(4, 0)", x.run(4, 0), -1);
        check.due(28, "run(7, 1)", x.run(7, 1), -1);
        check.due(28, "run(-1, 0)", x.run(-1, 0), -1);
        check.due(28, "run(1, 2)", x.run(1, 2), -1);
        for (int beat = 0; beat < 16; beat++) {
            set(x, beat, 255);
        }
        check.due(28, "none", x.run(3, 0), 0);
        check.due(28, "the first of none", x.run(3, 1), -1);
    }

    private static void bestShifts() {
        KeyHouses x = street();
        check.due(29, "without music", x.best(0), -7);
        check.due(29, "without music", x.best(1), 0);
        set(x, 0, 0b00001100);
        set(x, 1, 0b00000100);
        check.due(29, "as low as can be", x.best(0), -2);
        check.due(29, "1 each", x.best(1), 3);
        Check.law(x, "minds 10 - key");
        x.force(0);
        // By 0: (8 + 7) + 8; by 1 key 4 is of house 1: (7 + 6) + 7; by 2 both are house 1's: it has one hand.
        check.due(29, "by 1", x.best(0), 1);
        check.due(29, "by 1", x.best(1), 20);
        check.due(29, "the music stays", x.music(0), 12);
        set(x, 5, 0b10000001);
        check.due(29, "by 0 alone", x.best(0), 0);
        x.give(0, -1);
        check.due(29, "by none", x.best(0), -100);
        check.due(29, "by none", x.best(1), -100);
        KeyHouses y = new KeyHouses();
        y.house(8, 7);
        y.give(7, 0);
        set(y, 4, 0b00000001);
        check.due(29, "by 7", y.best(0), 7);
        y.give(7, -1);
        y.give(0, 0);
        set(y, 4, 0b10000000);
        check.due(29, "by -7", y.best(0), -7);
        Check.law(y, "lends");
        y.force(0);
        set(y, 4, 255);
        check.due(29, "all keys, by 0", y.best(0), 0);
        check.due(29, "all keys, by 0", y.best(1), 8);
        check.due(29, "best(2)", x.best(2), -100);
        check.due(29, "best(-1)", x.best(-1), -100);
    }

    private static void motifs() {
        KeyHouses x = new KeyHouses();
        check.due(32, "no motif", x.find(-1), -1);
        check.due(32, "no motif", x.find(0), -1);
        check.due(30, "motif(-1)", x.motif(-1), -1);
        check.due(30, "motif(256)", x.motif(256), -1);
        for (int i = 1; i <= 6; i++) {
            check.due(30, "motif(0)", x.motif(0), i);
        }
        check.due(30, "a seventh", x.motif(255), -5);
        check.due(30, "a seventh that can't be", x.motif(256), -1);
        check.due(32, "six without keys", x.find(-1), 11);
        check.due(32, "the last", x.find(10), 1007);
        check.due(31, "forget()", x.forget(), 6);
        check.due(31, "forget() again", x.forget(), 0);
        x.motif(0b00000101);
        x.motif(0);
        x.motif(0b00000010);
        check.due(30, "count(2)", x.count(2), 3);
        set(x, 3, 0b00010100);
        set(x, 5, 0b00001000);
        set(x, 13, 0b10100000);
        set(x, 15, 0b01000000);
        check.due(32, "how many", x.find(-1), 2);
        check.due(32, "at 3, by 2", x.find(0), 309);
        check.due(32, "at 13, by 5", x.find(1), 1312);
        check.due(32, "find(2)", x.find(2), -1);
        check.due(32, "find(-2)", x.find(-2), -1);
        set(x, 4, 1);
        check.due(32, "just its set", x.find(-1), 1);
        x.forget();
        x.motif(0b10000000);
        set(x, 4, 0b00000001);
        set(x, 8, 0b00001000);
        check.due(32, "by -7, 0 and all between", x.find(0), 400);
        check.due(32, "by -4", x.find(1), 503);
        x.forget();
        x.motif(255);
        check.due(32, "all keys are not there", x.find(-1), 0);
        set(x, 15, 255);
        check.due(32, "all keys, by 0", x.find(0), 1507);
    }

    private static void debts() {
        KeyHouses x = street();
        check.due(33, "without music", x.owes(0, 1), 0);
        Check.law(x, "lends; minds 9 if house = 0 and key > 3; minds 9 if house = 1 and key < 4; minds 0 if beat = 2 and owner = 1 - house");
        x.force(0);
        set(x, 0, 0b00000111);
        set(x, 1, 0b01100000);
        set(x, 2, 0b00010001);
        check.due(33, "one owes the other for beat 0 and beat 2", x.owes(1, 0), 2);
        check.due(33, "the other for beat 1, and beat 2", x.owes(0, 1), 2);
        check.due(33, "itself", x.owes(0, 0), -1);
        check.due(33, "owes(2, 0)", x.owes(2, 0), -1);
        check.due(33, "owes(0, 2)", x.owes(0, 2), -1);
        check.due(33, "owes(-1, 0)", x.owes(-1, 0), -1);
        x.give(2, -1);
        check.due(33, "nobody is owed for key 2", x.owes(1, 0), 1);
        set(x, 9, 255);
        check.due(33, "can't be had", x.owes(1, 0), -1);
    }

    /** Houses that owe one another as told: at each beat a house plays one key of another one. */
    private static KeyHouses owing(int houses, int... pairs) {
        KeyHouses x = new KeyHouses();
        StringBuilder law = new StringBuilder("lends; minds 9");
        for (int house = 0; house < houses; house++) {
            x.house(1, 0);
            x.give(house, house);
        }
        for (int i = 0; i < pairs.length; i += 2) {
            set(x, i / 2, 1 << pairs[i + 1]);
            law.append("; minds 0 if beat = ").append(i / 2).append(" and house = ").append(pairs[i]);
        }
        Check.law(x, law.toString());
        x.force(0);
        return x;
    }

    private static void settles() {
        check.due(34, "without houses", new KeyHouses().settled(), 0);
        check.due(34, "one debt", owing(2, 0, 1).settled(), 1);
        check.due(34, "both ways", owing(2, 0, 1, 1, 0).settled(), 0);
        check.due(34, "round", owing(3, 0, 1, 1, 2, 2, 0).settled(), 0);
        check.due(34, "a chain", owing(3, 0, 1, 1, 2).settled(), 1);
        check.due(34, "two to one", owing(3, 0, 2, 1, 2).settled(), 2);
        check.due(34, "two heaps of two", owing(4, 0, 2, 0, 2, 1, 3).settled(), 2);
        check.due(34, "three heaps of two, crossed", owing(6, 0, 4, 1, 5, 2, 3, 3, 2, 2, 3, 0, 4).settled(), 3);
        check.due(34, "one heap of four", owing(4, 0, 2, 0, 2, 0, 2, 1, 3, 1, 3, 1, 2).settled(), 3);
        check.due(34, "two heaps of three", owing(6, 0, 4, 0, 4, 0, 4, 1, 4, 1, 4, 2, 5, 3, 5).settled(), 4);
        KeyHouses x = street();
        set(x, 9, 255);
        check.due(34, "can't be had", x.settled(), -1);
    }

    private static void chances() {
        KeyHouses x = new KeyHouses();
        long whole = 1000000000000L;
        check.due(35, "none of none", x.few(1, 0), whole);
        check.due(35, "none of one", x.few(1, 1), 900000000000L);
        check.due(35, "fewer than 2 of 3", x.few(2, 3), 972000000000L);
        check.due(35, "none of 12", x.few(1, 12), 282429536481L);
        check.due(35, "none of 13, cut", x.few(1, 13), 254186582832L);
        check.due(35, "none of 14, cut each time", x.few(1, 14), 228767924548L);
        check.due(35, "each part is cut", x.few(2, 13), twoParts(13));
        check.due(35, "each part is cut", x.few(2, 99), twoParts(99));
        check.due(35, "few(0, 1)", x.few(0, 1), -1);
        check.due(35, "few(21, 1)", x.few(21, 1), -1);
        check.due(35, "few(1, -1)", x.few(1, -1), -1);
        check.due(35, "few(1, 100)", x.few(1, 100), -1);
        check.due(35, "few(20, 5)", x.few(20, 5), whole);
        x.terms(1, 0);
        check.due(35, "none slips", x.few(1, 99), whole);
        x.terms(1, 10);
        check.due(35, "all slip", x.few(20, 20), 0);
        check.due(35, "all slip", x.few(20, 19), whole);
    }

    /** Fewer than two slips of n, SLIP 1: the chances of none and of one, note by note. */
    private static long twoParts(int n) {
        long none = 1000000000000L;
        long one = 0;
        for (int i = 0; i < n; i++) {
            one = one * 9 / 10 + none / 10;
            none = none * 9 / 10;
        }
        return none + one;
    }

    private static void compares() {
        KeyHouses x = street();
        set(x, 0, 0b00000011);
        set(x, 1, 0b00010000);
        Check.law(x, "minds 4");
        Check.law(x, "minds 7 if house = 1");
        Check.law(x, "bars if key = 4");
        x.force(0);
        check.due(36, "none", x.compare(-1), 3);
        check.due(36, "that in force", x.compare(0), 12);
        check.due(36, "another one", x.compare(1), 9);
        check.due(36, "it can't be had", x.compare(2), -1);
        check.due(36, "compare(3)", x.compare(3), -1);
        check.due(36, "compare(-2)", x.compare(-2), -1);
        check.due(36, "that in force stays", x.count(11), 0);
        x.force(2);
        check.due(36, "it can by another one", x.compare(0), 12);
    }

    private static void evenings() {
        KeyHouses x = new KeyHouses();
        check.due(37, "no houses", x.evenings(0, 1), -3);
        check.due(37, "evenings(-1, 1)", x.evenings(-1, 1), -1);
        x.house(1, 7);
        x.house(8, 7);
        check.due(37, "evenings(1000001, 1)", x.evenings(1000001, 1), -1);
        check.due(37, "evenings(0, 0)", x.evenings(0, 0), -1);
        check.due(37, "evenings(0, 61)", x.evenings(0, 61), -1);
        check.due(38, "none yet", x.drawn(0, 0), -1);
        // From 1000000: 9036 (beat 12), 979026 (key 2), 874786 (house 0), 898411 (1: given);
        // 956708 (beat 4), 258104 (key 0), 700205 (house 1), 336144 (0: a note);
        // 778067 (beat 3), 217672 (key 0), 103841 (house 1), 548626 (1: given).
        check.due(37, "one evening", x.evenings(1000000, 1), 1);
        check.due(38, "given", x.drawn(2, 1), 0);
        check.due(38, "no note yet", x.drawn(4, 0), 0);
        check.due(37, "two evenings, the second with nobody's key", x.evenings(1000000, 2), 1);
        check.due(38, "a note", x.drawn(4, 0), 1);
        check.due(38, "not given yet", x.drawn(0, 1), -1);
        check.due(37, "three evenings", x.evenings(1000000, 3), 2);
        check.due(38, "given", x.drawn(0, 1), 1);
        check.due(38, "not given", x.drawn(7, 1), -1);
        check.due(38, "no note", x.drawn(12, 0), 0);
        check.due(37, "on paper", x.owner(0), -1);
        check.due(37, "on paper", x.count(12), 0);
        check.due(38, "drawn(16, 0)", x.drawn(16, 0), -1);
        check.due(38, "drawn(8, 1)", x.drawn(8, 1), -1);
        check.due(38, "drawn(-1, 0)", x.drawn(-1, 0), -1);
        check.due(38, "drawn(0, 2)", x.drawn(0, 2), -1);
        x.evenings(0, 61);
        check.due(38, "behind the latest not refused", x.drawn(0, 1), 1);
    }

    private static void eveningsLast() {
        KeyHouses x = new KeyHouses();
        x.house(1, 7);
        x.note(3, 3);
        x.terms(0, 999);
        check.due(37, "at the last day", x.evenings(5, 60), 0);
        check.due(38, "as it is", x.drawn(3, 0), 8);
        Check.law(x, "lends if day = 999; lends if day = 997");
        x.force(0);
        x.terms(0, 996);
        // With seed 7 nothing is changed at the first three.
        check.due(37, "days 997 and 999 of three", x.evenings(7, 60), 2);
        check.due(37, "the day now", x.count(12), 996);
    }
}
