/** Terms III and IV, sentence by sentence: each edge that a sentence names. */
public final class PaperEdgeTest {
    private static final Check check = new Check();

    private static String sentence = "";

    public static void main(String[] args) {
        notes();
        gives();
        shifts();
        days();
        handsOfAPart();
        reachOfAPart();
        partOfWhatItCan();
        noneToo();
        justOne();
        drill();
        dayAsNow();
        leastMinded();
        allBeatsTogether();
        firstWay();
        covered();
        runs();
        best();
        found();
        foundNowhereBeyond();
        debts();
        settled();
        few();
        compared();
        seeds();
        draws();
        eveningsAtTheLastDay();
        behindEachEvening();
        rows();
        imagesKeep();
        imagesDoNotKeep();
        check.close("PaperEdgeTest");
    }

    private static void due(String call, long got, long want) {
        check.due(sentence, call, got, want);
    }

    private static void force(KeyHouses x, String law) {
        int number = Check.law(x, law);
        due("law() of " + law, number < 0 ? number : 0, 0);
        x.force(number);
    }

    // ---- III, changes

    private static void notes() {
        sentence = "III. A NOTE: that KEY is in its set, if it was not, else no more";
        KeyHouses x = new KeyHouses();
        due("set", x.note(0, 0), 1);
        due("struck out", x.note(0, 0), 0);
        due("set", x.note(7, 15), 128);
        due("another one", x.note(0, 15), 129);
        due("struck out", x.note(7, 15), 1);
        due("music(0)", x.music(0), 0);
    }

    private static void gives() {
        sentence = "III. To GIVE a KEY: its OWNER is another HOUSE, or nobody";
        KeyHouses x = new KeyHouses();
        due("nobody to nobody", x.give(0, -1), -3);
        x.house(1, 1);
        x.house(1, 1);
        due("nobody to a house", x.give(0, 1), 6);
        due("to the same", x.give(0, 1), -3);
        due("to another one", x.give(0, 0), 1);
        due("to nobody", x.give(0, -1), 0);
        due("to nobody again", x.give(0, -1), -3);
    }

    private static void shifts() {
        sentence = "III. To SHIFT: each KEY of each set becomes one n further; none may be beyond 0 .. 7";
        for (int n = -7; n <= 7; n++) {
            for (int key = 0; key <= 7 && n != 0; key++) {
                KeyHouses x = new KeyHouses();
                x.note(key, 6);
                boolean beyond = key + n < 0 || key + n > 7;
                due("key " + key + " by " + n, x.shift(n), beyond ? -3 : 1);
                due("music(6)", x.music(6), 1 << (beyond ? key : key + n));
            }
        }
        KeyHouses x = new KeyHouses();
        due("without music", x.shift(-7), 0);
        x.note(0, 0);
        x.note(7, 15);
        due("one beyond above", x.shift(1), -3);
        due("one beyond below", x.shift(-1), -3);
        due("none was shifted", x.music(0) * 1000 + x.music(15), 1128);
        x.note(7, 15);
        x.note(6, 15);
        due("both", x.shift(1), 2);
        due("shifted", x.music(0) * 1000 + x.music(15), 2128);
    }

    private static void days() {
        sentence = "III. A DAY passes (DAY below 999)";
        KeyHouses x = new KeyHouses();
        due("the first", x.pass(), 1);
        x.terms(0, 997);
        due("998", x.pass(), 998);
        due("999", x.pass(), 999);
        due("no more", x.pass(), -3);
        due("count(12)", x.count(12), 999);
    }

    // ---- III, parts and ways

    private static void handsOfAPart() {
        sentence = "III. A PART: at most as many as its HANDS";
        for (int hands = 1; hands <= 8; hands++) {
            KeyHouses x = Check.lending(1, hands, 7);
            Check.set(x, 0, (1 << hands) - 1);
            due(hands + " keys for as many hands", x.drill(), 16);
            due("ways(0)", x.ways(0), 1);
            if (hands < 8) {
                Check.set(x, 0, (2 << hands) - 1);
                due("a key more", x.drill(), 0);
                due("least(0)", x.least(0), -1);
                due("ways(0)", x.ways(0), 0);
                due("might(0, 0)", x.might(0, 0), 0);
                due("who(0, 0)", x.who(0, 0), -1);
            }
        }
        KeyHouses y = Check.lending(2, 3, 7);
        Check.set(y, 0, 63);
        due("six keys for two by three hands", y.ways(0), 20);
        Check.set(y, 0, 127);
        due("seven keys", y.ways(0), 0);
        due("seven keys", y.drill(), 0);
    }

    private static void reachOfAPart() {
        sentence = "III. A PART: the highest no more than its REACH above the lowest";
        for (int reach = 0; reach <= 7; reach++) {
            KeyHouses x = Check.lending(1, 8, reach);
            for (int low = 0; low + reach <= 7; low++) {
                Check.set(x, 0, 1 << low | 1 << low + reach);
                due("keys " + reach + " apart", x.drill(), 16);
                due("ways(0)", x.ways(0), 1);
                if (low + reach < 7) {
                    Check.set(x, 0, 1 << low | 2 << low + reach);
                    due("one further apart", x.drill(), 0);
                    due("ways(0)", x.ways(0), 0);
                    due("least(0)", x.least(0), -1);
                }
            }
        }
        KeyHouses y = Check.lending(2, 8, 3);
        Check.set(y, 0, 255);
        due("eight keys for two with reach 3", y.ways(0), 2);
        due("the first", y.who(0, 3) * 10 + y.who(0, 4), 1);
    }

    private static void partOfWhatItCan() {
        sentence = "III. A PART: a set of KEYS all of which it CAN play";
        KeyHouses x = new KeyHouses();
        x.house(8, 7);
        x.give(0, 0);
        Check.set(x, 3, 1);
        due("its key", x.drill(), 16);
        Check.set(x, 3, 3);
        due("nobody's key, too", x.drill(), 3);
        x.give(1, 0);
        due("its key, too", x.drill(), 16);
        force(x, "bars if key = 1 and beat = 3");
        due("barred", x.drill(), 3);
    }

    private static void noneToo() {
        sentence = "III. A PART: (none, too)";
        KeyHouses x = Check.lending(6, 1, 0);
        due("six houses, no key", x.ways(0), 1);
        Check.set(x, 0, 4);
        due("six houses, a key", x.ways(0), 6);
        due("without houses, without keys", new KeyHouses().ways(15), 1);
        KeyHouses y = new KeyHouses();
        y.note(0, 15);
        due("without houses, a key", y.ways(15), 0);
        due("drill()", y.drill(), 15);
        due("least(15)", y.least(15), -1);
        due("least(-1)", y.least(-1), -1);
        due("cover(0)", y.cover(0), -1);
        due("run(0, 0)", y.run(0, 0), 15);
        due("might(15, 0)", y.might(15, 0), 0);
        due("settled()", y.settled(), -1);
        due("best(0)", y.best(0), -100);
    }

    private static void justOne() {
        sentence = "III. each KEY of the MUSIC there is in just one of these, no other KEY is";
        KeyHouses x = Check.lending(2, 8, 7);
        Check.set(x, 0, 1);
        due("one key, two houses", x.ways(0), 2);
        Check.set(x, 0, 255);
        due("eight keys, two houses", x.ways(0), 256);
        Check.set(x, 0, 129);
        due("two keys, two houses", x.ways(0), 4);
        due("a key that is not there", x.might(0, 1), 0);
        due("a key that is not there", x.who(0, 1), -1);
        due("1 each", x.least(0), 2);
    }

    private static void drill() {
        sentence = "III. the DRILL: the first BEAT that can't be had in FULL";
        KeyHouses x = new KeyHouses();
        x.house(8, 7);
        due("none", x.drill(), 16);
        for (int beat = 15; beat >= 0; beat--) {
            x.note(0, beat);
            due("beat " + beat, x.drill(), beat);
        }
        x.give(0, 0);
        due("none", x.drill(), 16);
        force(x, "bars if beat > 3");
        due("from 4 on", x.drill(), 4);
    }

    private static void dayAsNow() {
        sentence = "III. (On paper, DAY as now:)";
        KeyHouses x = Check.lending(2, 8, 7);
        Check.set(x, 2, 3);
        force(x, "lends if day = 5; minds day * 2; lends if day = 6 and house = 1");
        due("day 0", x.drill(), 2);
        due("best(0)", x.best(0), -100);
        x.terms(0, 4);
        due("day 4", x.drill(), 2);
        due("pass()", x.pass(), 5);
        due("day 5", x.drill(), 16);
        due("least(-1)", x.least(-1), 20);
        due("best(1)", x.best(1), 20);
        due("compare", x.compare(1), 20);
        due("cover(1)", x.cover(1), 1);
        x.pass();
        due("day 6", x.drill(), 16);
        due("least(2)", x.least(2), 24);
        due("cover(1)", x.cover(1), 2);
        due("run(1, 0)", x.run(1, 0), 13);
        due("the day stays", x.count(12), 6);
    }

    private static void leastMinded() {
        sentence = "III. MINDED: the least that all KEYS of a BEAT are MINDED together in a WAY";
        KeyHouses x = Check.lending(2, 1, 7);
        force(x, "lends; minds 1; minds 9 if house = 1 and key = 1");
        Check.set(x, 0, 3);
        due("not key by key", x.least(0), 2);
        due("who(0, 0)", x.who(0, 0), 1);
        due("who(0, 1)", x.who(0, 1), 0);
        force(x, "lends; minds 0");
        due("0", x.least(0), 0);
        due("nothing to be had", x.least(1), 0);
        force(x, "lends; minds 9; minds 0 if house = 0; bars if house = 0 and key = 0");
        due("who is barred does not count", x.least(0), 9);
        Check.set(x, 0, 7);
        due("it can't be had", x.least(0), -1);
        due("others can", x.least(1), 0);
    }

    private static void allBeatsTogether() {
        sentence = "III. MINDED of all BEATS together";
        KeyHouses x = Check.lending(6, 8, 7);
        force(x, "lends; minds 99");
        for (int beat = 0; beat < 16; beat++) {
            Check.set(x, beat, 255);
        }
        due("128 notes, 99 each", x.least(-1), 12672);
        due("each beat", x.least(15), 792);
        due("compare(1)", x.compare(1), 12672);
        due("compare(0)", x.compare(0), 128);
        due("best(1)", x.best(1), 12672);
        due("best(0)", x.best(0), 0);
        due("who(15, 7)", x.who(15, 7), 0);
        due("owes(0, 1)", x.owes(0, 1), 0);
        force(x, "lends; minds 99; bars if beat = 15 and key = 7");
        due("not all", x.least(-1), -1);
        due("least(14)", x.least(14), 792);
    }

    private static void firstWay() {
        sentence = "III. The first of these WAYS, as a row of HOUSES by KEYS that rise";
        KeyHouses x = Check.lending(6, 1, 0);
        Check.set(x, 0, 0b11101101);
        int house = 0;
        for (int key = 0; key <= 7; key++) {
            due("one by one, key " + key, x.who(0, key), (0b11101101 >> key & 1) == 1 ? house++ : -1);
        }
        KeyHouses y = Check.lending(2, 1, 7);
        Check.set(y, 0, 0b10000001);
        due("ways(0)", y.ways(0), 2);
        due("the lowest key first", y.who(0, 0) * 10 + y.who(0, 7), 1);
        force(y, "lends; minds 2; minds 1 if house = 1 and key = 0");
        due("least is minded first", y.who(0, 0) * 10 + y.who(0, 7), 10);
        KeyHouses z = Check.lending(3, 2, 7);
        force(z, "lends; minds 9; minds 3 if house = 0 and key = 2; minds 3 if house = 2 and key = 0; minds 3 if house = 1");
        Check.set(z, 0, 7);
        // 3 each: key 0 by 1 or 2, key 1 by 1, key 2 by 0 or 1; house 1 has two hands.
        due("least(0)", z.least(0), 9);
        due("1 1 0", z.who(0, 0) * 100 + z.who(0, 1) * 10 + z.who(0, 2), 110);
        force(z, "lends; minds house");
        due("0 0 1", z.who(0, 0) * 100 + z.who(0, 1) * 10 + z.who(0, 2), 1);
    }

    // ---- III, of all beats

    private static void covered() {
        sentence = "III. COVERED: the fewest HOUSES by whom alone all BEATS can be had in FULL; the lowest as bits";
        KeyHouses x = Check.lending(6, 1, 0);
        due("none are needed", x.cover(0), 0);
        due("none are needed", x.cover(1), 0);
        for (int keys = 1; keys <= 6; keys++) {
            Check.set(x, 15, (1 << keys) - 1);
            due("one house a key", x.cover(0), keys);
            due("the lowest", x.cover(1), (1 << keys) - 1);
        }
        Check.set(x, 15, 127);
        due("not by all", x.cover(0), -1);
        due("not by all", x.cover(1), -1);
        Check.set(x, 15, 0);
        // Beat 0 by 0 or 1, beat 1 by 0 or 2, beat 2 by 3 or 1, beat 3 by 3 or 2: by 0 and 3 (9), by 1 and 2 (6).
        force(x, "lends if beat = 0 and house < 2; lends if beat = 1 and (house = 0 or house = 2);"
            + "lends if beat = 2 and (house = 1 or house = 3); lends if beat = 3 and (house = 2 or house = 3)");
        for (int beat = 0; beat <= 3; beat++) {
            Check.set(x, beat, 16);
        }
        due("two", x.cover(0), 2);
        due("the lowest as bits", x.cover(1), 6);
        force(x, "lends if house < 2 and house = beat % 2; lends if house = 5");
        due("the fewest, not the lowest", x.cover(0), 1);
        due("the fewest, not the lowest", x.cover(1), 32);
    }

    private static void runs() {
        sentence = "III. A RUN: of BEATS that told HOUSES alone can have in FULL, the longest; the first of these";
        KeyHouses x = new KeyHouses();
        x.house(8, 7);
        x.house(8, 7);
        for (int beat = 0; beat < 16; beat++) {
            x.note(0, beat);
            x.note(1, beat);
        }
        for (String[] told : new String[][] {{"beat = 0", "1", "0"}, {"beat = 15", "1", "15"}, {"beat < 16", "16", "0"},
            {"beat > 16", "0", "-1"}, {"beat < 3 or beat > 12", "3", "0"}, {"beat < 3 or beat > 11", "4", "12"},
            {"beat % 2 = 1", "1", "1"}, {"beat > 0", "15", "1"}, {"beat < 15", "15", "0"}, {"not beat = 7", "8", "8"},
            {"not beat = 8", "8", "0"}}) {
            x.image(0);
            force(x, "lends if house = 1 and (" + told[0] + ")");
            due("how many, " + told[0], x.run(2, 0), Integer.parseInt(told[1]));
            due("the first, " + told[0], x.run(2, 1), Integer.parseInt(told[2]));
            due("with another one, " + told[0], x.run(3, 0), Integer.parseInt(told[1]));
            due("by another one", x.run(1, 0), 0);
            due("by another one", x.run(1, 1), -1);
            due("by nobody", x.run(0, 0), 0);
            x.back(0);
        }
    }

    private static void best() {
        sentence = "III. BEST: the SHIFT -7 .. 7 (0: as it is; no KEY beyond); the lowest";
        for (int from = 0; from <= 7; from++) {
            for (int to = 0; to <= 7; to++) {
                KeyHouses x = new KeyHouses();
                x.house(1, 0);
                x.give(to, 0);
                x.note(from, 9);
                due("from " + from + " to " + to, x.best(0), to - from);
                due("minded", x.best(1), 1);
            }
        }
        KeyHouses y = Check.lending(1, 8, 7);
        due("without music", y.best(0), -7);
        due("without music", y.best(1), 0);
        Check.set(y, 0, 0b00011000);
        due("the lowest", y.best(0), -3);
        force(y, "lends; minds key");
        due("least", y.best(0) * 100 + y.best(1), -299);
        force(y, "lends; minds 9 - key");
        due("least at the top", y.best(0) * 100 + y.best(1), 305);
        force(y, "lends; minds 5; minds 2 if key = 4");
        due("two alike: the lowest", y.best(0) * 100 + y.best(1), 7);
        Check.set(y, 15, 0b10000001);
        due("no key beyond", y.best(0), 0);
        force(y, "lends if not key = 7");
        due("none", y.best(0), -100);
        due("none", y.best(1), -100);
        due("on paper", y.music(0), 24);
    }

    private static void found() {
        sentence = "III. FOUND: a MOTIF of m sets from a BEAT on, shifted by -7 .. 7; by BEATS, then by shifts";
        KeyHouses x = new KeyHouses();
        for (int i = 0; i < 6; i++) {
            x.motif(i == 5 ? 1 : 0);
        }
        Check.set(x, 15, 128);
        due("the last of six at beat 15, by 7", x.find(0), 1014);
        due("one", x.find(-1), 1);
        Check.set(x, 4, 1);
        due("the last of six at beat 4: from -1 on it can't be", x.find(-1), 1);
        Check.set(x, 5, 1);
        due("beats 4 and 5 one behind another", x.find(-1), 1);
        Check.set(x, 4, 0);
        due("the last of six at beat 5", x.find(-1), 2);
        due("by 0", x.find(0), 7);
        due("then by 7", x.find(1), 1014);
        due("no more", x.find(2), -1);
        x.forget();
        x.motif(128);
        due("one set at beat 5, by -7", x.find(0), 500);
        due("one set at beat 15, by 0", x.find(1), 1507);
        Check.set(x, 15, 129);
        due("just its set", x.find(-1), 1);
        x.forget();
        x.motif(1);
        x.motif(0);
        due("the second would be beat 16", x.find(-1), 1);
        Check.set(x, 14, 2);
        Check.set(x, 15, 0);
        due("at 14", x.find(1), 1408);
        x.forget();
        x.motif(0);
        x.motif(0);
        due("without keys: by 0 alone", x.find(-1), 11);
        due("0, 1", x.find(0), 7);
        due("6 behind 5", x.find(4), 607);
        due("12, 13", x.find(10), 1207);
    }

    private static void foundNowhereBeyond() {
        sentence = "III. FOUND: none of its KEYS beyond 0 .. 7";
        KeyHouses x = new KeyHouses();
        x.motif(129);
        Check.set(x, 3, 2);
        Check.set(x, 4, 64);
        due("a key beyond is not left out", x.find(-1), 0);
        Check.set(x, 5, 129);
        due("by 0", x.find(-1), 1);
        due("by 0", x.find(0), 507);
        x.forget();
        x.motif(128);
        x.motif(1);
        for (int i = 0; i < 16; i++) {
            Check.set(x, i, 0);
        }
        due("nor is it found where nothing is", x.find(-1), 0);
        x.forget();
        x.motif(3);
        Check.set(x, 8, 0b11000000);
        due("by 6", x.find(0), 813);
        Check.set(x, 8, 0b10000000);
        due("not by 7", x.find(-1), 0);
    }

    private static void debts() {
        sentence = "III. DEBTS: each HOUSE owes 1 to the OWNER of each KEY it plays that has another OWNER";
        KeyHouses x = new KeyHouses();
        x.house(8, 7);
        x.house(8, 7);
        x.house(8, 7);
        for (int key = 0; key <= 7; key++) {
            x.give(key, 0);
        }
        for (int beat = 0; beat < 16; beat++) {
            Check.set(x, beat, 255);
        }
        due("its own keys", x.owes(0, 1) + x.owes(1, 0), 0);
        due("settled()", x.settled(), 0);
        force(x, "lends; bars if house = 0");
        due("all keys of another one", x.owes(1, 0), 128);
        due("not the other way", x.owes(0, 1), 0);
        due("who plays nothing", x.owes(2, 0), 0);
        due("settled()", x.settled(), 1);
        x.give(3, -1);
        due("nobody's key", x.owes(1, 0), 112);
        x.give(4, 1);
        due("its own key", x.owes(1, 0), 96);
        x.give(5, 2);
        due("a third one's key", x.owes(1, 0), 80);
        due("a third one's key", x.owes(1, 2), 16);
        due("settled()", x.settled(), 2);
        force(x, "lends; bars if house < 2 and key = 0; bars if house = 0; bars if house = 2 and beat = 0");
        due("it can't be had", x.owes(1, 0), -1);
        due("it can't be had", x.settled(), -1);
    }

    /** Houses of one key each; at beat i the house pairs[2 i] plays the key of the house pairs[2 i + 1]. */
    private static int settledOf(int... pairs) {
        KeyHouses x = new KeyHouses();
        StringBuilder law = new StringBuilder("lends; bars if not (");
        for (int house = 0; house < 6; house++) {
            x.house(1, 0);
            x.give(house, house);
        }
        for (int i = 0; i < pairs.length; i += 2) {
            Check.set(x, i / 2, 1 << pairs[i + 1]);
            law.append(i == 0 ? "" : " or ").append("beat=").append(i / 2).append(" and house=").append(pairs[i]);
        }
        force(x, law.append(")").toString());
        return x.settled();
    }

    private static void settled() {
        sentence = "III. SETTLED: how many of them are not even, less the most heaps of these that are even together";
        due("all are even", new KeyHouses().settled(), 0);
        due("one owes, one is owed", settledOf(0, 5), 1);
        due("even again", settledOf(0, 5, 5, 0), 0);
        due("round all six", settledOf(0, 1, 1, 2, 2, 3, 3, 4, 4, 5, 5, 0), 0);
        due("five owe one: one heap", settledOf(0, 5, 1, 5, 2, 5, 3, 5, 4, 5), 5);
        due("three pairs: three heaps", settledOf(0, 1, 2, 3, 4, 5), 3);
        due("three pairs, not those who owe one another", settledOf(0, 1, 0, 1, 0, 3, 2, 3, 2, 3, 2, 1, 4, 5), 3);
        due("2 + 1 = 3 twice: two heaps", settledOf(0, 2, 0, 2, 1, 2, 3, 5, 3, 5, 4, 5), 4);
        due("3 to 1, 1, 1 and 2 to 2", settledOf(0, 1, 0, 2, 0, 3, 4, 5, 4, 5), 4);
    }

    private static void few() {
        sentence = "III. FEW: that of n notes, each of which slips in SLIP of ten, fewer than k slip";
        long whole = 1000000000000L;
        KeyHouses x = new KeyHouses();
        due("none of none", x.few(1, 0), whole);
        due("fewer than 20 of none", x.few(20, 0), whole);
        due("fewer than 20 of 12", x.few(20, 12), whole);
        due("1 in ten", x.few(1, 2), 810000000000L);
        due("fewer than 2 of 2", x.few(2, 2), 990000000000L);
        due("fewer than 3 of 2", x.few(3, 2), whole);
        x.terms(1, 0);
        due("SLIP 0", x.few(1, 99), whole);
        x.terms(1, 10);
        due("SLIP 10, none of none", x.few(1, 0), whole);
        due("SLIP 10, none of one", x.few(1, 1), 0);
        due("SLIP 10, fewer than 20 of 19", x.few(20, 19), whole);
        due("SLIP 10, fewer than 20 of 20", x.few(20, 20), 0);
        x.terms(1, 5);
        due("SLIP 5, none of 12", x.few(1, 12), 244140625);
        due("SLIP 5, fewer than 2 of 4", x.few(2, 4), 312500000000L);
        due("SLIP 5, none of 13: cut", x.few(1, 13), 122070312);
        due("SLIP 5, none of 40: cut each time", x.few(1, 40), 0);
        x.terms(1, 3);
        due("SLIP 3, fewer than 2 of 3", x.few(2, 3), 784000000000L);
    }

    private static void compared() {
        sentence = "III. COMPARED: MINDED of all BEATS by a LAW in place of that in FORCE (NONE: none)";
        KeyHouses x = new KeyHouses();
        x.house(8, 7);
        x.give(1, 0);
        Check.set(x, 0, 2);
        Check.set(x, 15, 2);
        due("no law yet", x.compare(-1), 2);
        due("no such law", x.compare(0), -1);
        force(x, "minds 7");
        force(x, "bars");
        due("none", x.compare(-1), 2);
        due("the first", x.compare(0), 14);
        due("the last: it can't be had", x.compare(1), -1);
        due("no such law", x.compare(2), -1);
        due("no such law", x.compare(-2), -1);
        due("no such law", x.compare(Integer.MAX_VALUE), -1);
        due("no such law", x.compare(Integer.MIN_VALUE), -1);
        due("that in force is as it was", x.count(11), 1);
        due("least(-1)", x.least(-1), -1);
    }

    // ---- IV

    private static void seeds() {
        sentence = "IV. EVENINGS with a SEED (0 .. 1,000,000), n 1 .. 60";
        KeyHouses x = Check.lending(1, 8, 7);
        due("seed 0, n 1", x.evenings(0, 1), 1);
        due("seed 1000000, n 60", x.evenings(1000000, 60), 60);
        for (int seed : new int[] {-1, 1000001, Integer.MIN_VALUE, Integer.MAX_VALUE}) {
            due("seed " + seed, x.evenings(seed, 1), -1);
        }
        for (int n : new int[] {0, 61, -1, Integer.MIN_VALUE, Integer.MAX_VALUE}) {
            due("n " + n, x.evenings(0, n), -1);
        }
    }

    private static void draws() {
        sentence = "IV. a DRAW of m; DRAWS of 16, of 8, of HOUSES, of 3";
        for (int houses = 1; houses <= 6; houses++) {
            for (int seed : new int[] {0, 1, 7, 999, 123456, 999999, 1000000}) {
                KeyHouses x = Check.lending(houses, 8, 7);
                x.give(3, 0);
                x.note(3, 3);
                int[] music = new int[16];
                music[3] = 8;
                int[] owners = {-1, -1, -1, 0, -1, -1, -1, -1};
                long s = seed;
                for (int i = 0; i < 60; i++) {
                    s = (s * 1103 + 12345) % 1000003;
                    int beat = (int) (s % 16);
                    s = (s * 1103 + 12345) % 1000003;
                    int key = (int) (s % 8);
                    s = (s * 1103 + 12345) % 1000003;
                    int house = (int) (s % houses);
                    s = (s * 1103 + 12345) % 1000003;
                    if (s % 3 == 0) {
                        music[beat] ^= 1 << key;
                    } else if (s % 3 == 1) {
                        owners[key] = house;
                    }
                }
                due("all can be had", x.evenings(seed, 60), 60);
                for (int beat = 0; beat < 16; beat++) {
                    due("drawn(" + beat + ", 0)", x.drawn(beat, 0), music[beat]);
                }
                for (int key = 0; key < 8; key++) {
                    due("drawn(" + key + ", 1)", x.drawn(key, 1), owners[key]);
                }
                due("on paper", x.music(3) * 100 + x.owner(3) * 10 + x.count(12), 800);
                due("nothing to be undone by it", x.count(4), 2);
            }
        }
    }

    private static void eveningsAtTheLastDay() {
        sentence = "IV. Each time (at DAY 999 it ends)";
        KeyHouses x = Check.lending(1, 8, 7);
        x.note(4, 4);
        for (int day : new int[] {999, 998, 990, 940, 939, 938}) {
            x.terms(0, day);
            due("from day " + day, x.evenings(5, 60), Math.min(60, 999 - day));
            due("the day is as it was", x.count(12), day);
        }
        x.terms(0, 999);
        x.evenings(5, 60);
        due("nothing was drawn", x.drawn(4, 0), 16);
        for (int key = 0; key < 8; key++) {
            due("nothing was given", x.drawn(key, 1), -1);
        }
    }

    private static void behindEachEvening() {
        sentence = "IV. then the DAY passes; behind how many of them (that DAY passed, too)";
        KeyHouses x = Check.lending(1, 8, 7);
        // With seed 7 the first three evenings change nothing.
        x.note(0, 0);
        force(x, "lends if day = 0");
        due("had by day 0, not by 1 .. 3", x.evenings(7, 3), 0);
        force(x, "lends if day = 1");
        due("by day 1", x.evenings(7, 1), 1);
        force(x, "lends if day = 3");
        due("not by 1, 2", x.evenings(7, 2), 0);
        due("by day 3", x.evenings(7, 3), 1);
        due("drawn(0, 0)", x.drawn(0, 0), 1);
    }

    private static void rows() {
        sentence = "IV. A ROW: by twos; one that can't be, one within which the TAPE ends is a CREAK: nothing";
        KeyHouses x = new KeyHouses();
        Check.tape(x, new byte[] {0, 1});
        due("one", x.row() * 10 + x.creaks(), 10);
        Check.tape(x, new byte[] {15, (byte) 255});
        due("the last beat, all keys", x.row() * 10 + x.creaks(), 10);
        due("music(15)", x.music(15), 255);
        Check.tape(x, new byte[] {16, 1});
        due("beat 16", x.row() * 10 + x.creaks(), 1);
        Check.tape(x, new byte[] {(byte) 128, 1, (byte) 255, 1});
        due("beats 128, 255", x.row() * 10 + x.creaks(), 2);
        Check.tape(x, new byte[] {5});
        due("it ends within", x.row() * 10 + x.creaks(), 1);
        due("nothing", x.music(5), 0);
        Check.tape(x, new byte[] {16});
        due("it ends within one that can't be", x.row() * 10 + x.creaks(), 1);
        Check.tape(x, new byte[] {5, 3, 99, 9, 6, 0, 15});
        due("two told, two creaks", x.row() * 10 + x.creaks(), 22);
        due("music(5)", x.music(5), 3);
        due("music(15)", x.music(15), 255);
        Check.tape(x, new byte[] {15, 0});
        due("a set without keys", x.row() * 10 + x.creaks(), 10);
        due("music(15)", x.music(15), 0);
        due("the first is as it was told", x.music(0), 1);
    }

    private static void imagesKeep() {
        sentence = "IV. BACK to one all that it keeps is as it was then (IMAGES stay)";
        KeyHouses x = new KeyHouses();
        x.image(1);
        for (int i = 0; i < 6; i++) {
            x.house(1 + i, i);
            x.give(i, i);
            x.motif(i);
            Check.law(x, "minds " + (20 + i));
        }
        x.force(5);
        x.note(7, 15);
        x.terms(0, 999);
        x.terms(1, 10);
        x.terms(2, 9);
        x.image(0);
        x.back(1);
        due("no houses", x.count(0), 0);
        due("no owner", x.owner(5), -1);
        due("no music", x.count(1), 0);
        due("no motif", x.count(2), 0);
        due("no laws", x.count(3), 0);
        due("none in force", x.count(11), -1);
        due("terms", x.count(12) * 100 + x.count(13) * 10 + x.count(14), 10);
        due("force(0)", x.force(0), -2);
        due("another law", Check.law(x, "minds 1"), 0);
        due("another house", x.house(8, 7), 0);
        x.back(0);
        due("six houses", x.count(0), 6);
        due("hands, reach", x.of(0, 0) * 100 + x.of(0, 1) * 10 + x.of(5, 0), 106);
        due("an owner", x.owner(5), 5);
        due("music", x.music(15), 128);
        due("the motif", x.count(2), 6);
        due("laws", x.count(3), 6);
        due("in force", x.count(11), 5);
        due("minded", x.asks(0, 0, 0, 0), 25);
        x.force(0);
        due("the law that was", x.asks(0, 0, 0, 0), 20);
        due("terms", x.count(12) * 1000 + x.count(13) * 10 + x.count(14), 999109);
        due("the other one stays", x.back(1), 0);
        due("no houses", x.count(0), 0);
        x.house(3, 3);
        x.image(0);
        x.back(1);
        x.back(0);
        due("kept anew", x.count(0), 1);
        KeyHouses y = new KeyHouses();
        y.note(3, 3);
        y.note(4, 4);
        y.motif(1);
        y.motif(2);
        y.image(0);
        y.forget();
        y.motif(64);
        y.motif(64);
        y.motif(1);
        due("found no more", y.find(-1), 0);
        y.back(0);
        due("the sets of the motif", y.find(0), 310);
        for (int house = 0; house < 6; house++) {
            y.house(2 + house, 7 - house);
        }
        y.image(1);
        y.back(0);
        for (int house = 0; house < 6; house++) {
            y.house(1, 1);
        }
        y.back(1);
        for (int house = 0; house < 6; house++) {
            due("hands", y.of(house, 0), 2 + house);
            due("reach", y.of(house, 1), 7 - house);
        }
        imagesKeepTheLast();
    }

    private static void imagesKeepTheLast() {
        KeyHouses x = new KeyHouses();
        x.house(1, 1);
        x.note(5, 13);
        for (int i = 0; i < 5; i++) {
            x.motif(0);
            Check.law(x, "minds " + (20 + i));
        }
        x.image(0);
        x.motif(32);
        Check.law(x, "minds 25");
        x.force(5);
        x.note(7, 15);
        x.give(7, 0);
        x.image(1);
        x.back(0);
        due("five sets alone: from beats 0 .. 8", x.find(-1), 9);
        x.motif(129);
        Check.law(x, "minds 35");
        x.force(5);
        due("another sixth law", x.asks(0, 0, 0, 0), 35);
        due("another sixth set", x.find(-1), 0);
        due("the last beat, the last key", x.music(15) + x.owner(7), -1);
        x.back(1);
        due("the sixth law", x.asks(0, 0, 0, 0), 25);
        due("the sixth set", x.find(0), 807);
        due("the last beat, the last key", x.music(15) + x.owner(7), 128);
    }

    private static void imagesDoNotKeep() {
        sentence = "IV. IMAGES keep all but the TAPE, FAULT, CREAKS, where ORDERS stopped, what can be undone, the latest EVENINGS";
        KeyHouses x = Check.lending(2, 8, 7);
        x.note(1, 1);
        x.image(0);
        due("image() leaves what can be undone", x.count(4), 1);
        Check.tape(x, new byte[] {16, 16, 17});
        x.row();
        x.evenings(7, 1);
        Check.orders(x, "pass; pass; shift 0");
        Check.law(x, "lends lends");
        Check.tape(x, "abcd");
        x.note(1, 2);
        x.note(9, 9);
        x.back(0);
        due("the tape", x.count(5), 4);
        due("the fault", x.fault(), 6);
        due("creaks", x.creaks(), 2);
        due("where orders stopped", x.stopped(), 2);
        due("nothing can be undone", x.count(4), 0);
        due("undo()", x.undo(), -3);
        due("the latest evenings", x.drawn(1, 0), 2);
        due("refused by -1", x.count(6), 1);
        due("refused by -3", x.count(8), 2);
        due("refused by -6", x.count(10), 1);
        due("the note that was there", x.music(1), 2);
        due("the note that was not", x.music(2), 0);
    }
}
