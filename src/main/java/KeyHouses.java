import java.util.Arrays;

/**
 * A keyboard that runs through the parlours of a street: who may play which key when, what is minded of it, and what
 * follows from that. The document's numbered promises say what each call answers.
 */
public final class KeyHouses {
    public static final int NONE = -1;
    public static final int NOTHING = -100;

    private static final int KEYS = 8;
    private static final int HOUSES = 6;
    private static final int BEATS = 16;
    private static final int SETS = 6;
    private static final int LAWS = 6;
    private static final int IMAGES = 2;
    private static final int ALL_KEYS = 255;
    private static final int MOST_HANDS = 8;
    private static final int MOST_REACH = 7;
    private static final int FARTHEST = 7;

    private static final int DAY = 0;
    private static final int SLIP = 1;
    private static final int MOOD = 2;
    private static final int LAST_DAY = 999;
    private static final int MOST_SLIP = 10;
    private static final int MOST_MOOD = 9;

    private static final int BAD_NUMBER = -1;
    private static final int NO_SUCH = -2;
    private static final int CANNOT_BE = -3;
    private static final int NO_ROOM = -5;
    private static final int BAD_TEXT = -6;

    private static final int TAPE_ROOM = 400;
    private static final int FEED_BYTES = 20;
    private static final int CLAUSES = 12;
    private static final int PARTS = 50;
    private static final int BRACKETS = 8;
    private static final int MOST_NUMBER = 1000;
    private static final int MOST_TIMES = 20;
    private static final int UNDO_ROOM = 16;
    private static final int CHANGES_ROOM = UNDO_ROOM + CLAUSES * MOST_TIMES;

    private static final int NOTE = 0;
    private static final int GIVE = 1;
    private static final int SHIFT = 2;
    private static final int PASS = 3;
    private static final int MINDS = 4;
    private static final int LENDS = 5;
    private static final int BARS = 6;

    // What stands at which place of the words that an order's sums are reckoned from.
    private static final int DAY_WORD = 0;
    private static final int DONE_WORD = 1;
    private static final int LATEST_WORD = 2;
    private static final int DRILL_WORD = 3;
    private static final int NOTES_WORD = 4;
    private static final int MUSIC_WORD = 5;
    private static final int OWNER_WORD = MUSIC_WORD + BEATS;
    private static final int ORDER_WORDS = OWNER_WORD + KEYS;
    private static final int RULE_WORDS = 8;

    // Kinds of tokens: a single byte is its own kind, a word is FIRST_WORD and its place among the words.
    private static final String WORDS =
        "house key owner beat hands reach day mood done latest drill notes music minds lends bars note give shift pass at to times if and or not ";
    private static final int FIRST_WORD = 256;
    private static final int HOUSE_TOKEN = 256;
    private static final int OWNER_TOKEN = 258;
    private static final int DAY_TOKEN = 262;
    private static final int DONE_TOKEN = 264;
    private static final int LATEST_TOKEN = 265;
    private static final int DRILL_TOKEN = 266;
    private static final int NOTES_TOKEN = 267;
    private static final int MUSIC_TOKEN = 268;
    private static final int MINDS_TOKEN = 269;
    private static final int BARS_TOKEN = 271;
    private static final int NOTE_TOKEN = 272;
    private static final int PASS_TOKEN = 275;
    private static final int AT_TOKEN = 276;
    private static final int TO_TOKEN = 277;
    private static final int TIMES_TOKEN = 278;
    private static final int IF_TOKEN = 279;
    private static final int AND_TOKEN = 280;
    private static final int OR_TOKEN = 281;
    private static final int NOT_TOKEN = 282;
    private static final int OTHER_WORD = 283;
    private static final int NUMBER_TOKEN = 284;
    private static final int END_TOKEN = 285;

    // What a Reckoner does; behind AND and OR, and behind NUMBER and WORD, stands another number in the higher bits.
    private static final int STOP = 0;
    private static final int NUMBER = 1;
    private static final int WORD = 2;
    private static final int ADD = 3;
    private static final int SUBTRACT = 4;
    private static final int MULTIPLY = 5;
    private static final int DIVIDE = 6;
    private static final int REMAIN = 7;
    private static final int LESS = 8;
    private static final int MORE = 9;
    private static final int SAME = 10;
    private static final int NOT = 11;
    private static final int AND = 12;
    private static final int OR = 13;
    private static final int OP_BITS = 4;

    // Far from all that a sum may be.
    private static final long BROKEN = -1L << 60;
    private static final long SUM_LIMIT = 1000000000L;
    private static final int MOST_MINDED = 99;

    // A way is weighed as one number: what is minded above, the row of houses by keys below, three bits a key.
    private static final int HOUSE_BITS = 3;
    private static final int ROW_BITS = HOUSE_BITS * KEYS;
    private static final long NEVER = 1L << 60;

    private static final int MOST_SEED = 1000000;
    private static final int MOST_EVENINGS = 60;
    private static final int MOST_FEW = 20;
    private static final int MOST_NOTES = 99;
    private static final long WHOLE_CHANCE = 1000000000000L;

    private final Street now = new Street();
    private final Street paper = new Street();
    private final Street evening = new Street();
    private final Street[] images = new Street[IMAGES];
    private final boolean[] kept = new boolean[IMAGES];
    private final Tape tape = new Tape();
    private final Reader reader = new Reader(tape);
    private final Judge judge = new Judge();
    private final Players players = new Players(judge);
    private final Debts debts = new Debts();
    private final Changes changes = new Changes();
    private final Runner runner = new Runner();
    private final long[] chances = new long[MOST_FEW];
    private final int[] refusals = new int[5];
    private boolean drewEvenings;
    private int latestCreaks;
    private int latestStatus;

    public KeyHouses() {
        for (int i = 0; i < IMAGES; i++) {
            images[i] = new Street();
        }
    }

    public int house(int hands, int reach) {
        if (hands < 1 || hands > MOST_HANDS || reach < 0 || reach > MOST_REACH) {
            return refuse(BAD_NUMBER);
        }
        if (now.houses >= HOUSES) {
            return refuse(NO_ROOM);
        }
        now.hands[now.houses] = hands;
        now.reach[now.houses] = reach;
        now.houses++;
        changes.clear();
        return accept(now.houses - 1);
    }

    public int of(int house, int what) {
        if (!now.hasHouse(house)) {
            return NONE;
        }
        switch (what) {
            case 0:
                return now.hands[house];
            case 1:
                return now.reach[house];
            case 2:
                return now.keysOf(house);
            default:
                return NONE;
        }
    }

    public int owner(int key) {
        return isKey(key) ? now.owners[key] : NONE;
    }

    public int music(int beat) {
        return isBeat(beat) ? now.music[beat] : NONE;
    }

    public int asks(int house, int key, int beat, int what) {
        if (!now.hasHouse(house) || !isKey(key) || !isBeat(beat) || what < 0 || what > 1) {
            return NONE;
        }
        judge.ask(now, house, key, beat, true);
        if (what == 0) {
            return judge.minded;
        }
        return judge.can ? 1 : 0;
    }

    public int terms(int what, int value) {
        if (what < DAY || what > MOOD || value < 0 || value > mostTerm(what)) {
            return refuse(BAD_NUMBER);
        }
        int was = now.terms[what];
        now.terms[what] = value;
        changes.clear();
        return accept(was);
    }

    public int feed(int a, int b, int c, int d, int e) {
        if (tape.length + FEED_BYTES > TAPE_ROOM) {
            return NONE;
        }
        tape.add(a);
        tape.add(b);
        tape.add(c);
        tape.add(d);
        tape.add(e);
        return tape.length;
    }

    public int end(int n) {
        if (n < 0 || n > tape.length) {
            return NONE;
        }
        tape.length = n;
        return n;
    }

    public int row() {
        if (tape.length == 0) {
            return refuse(BAD_TEXT);
        }
        int told = 0;
        latestCreaks = 0;
        for (int at = 0; at < tape.length; at += 2) {
            if (at + 1 < tape.length && isBeat(tape.byteAt(at))) {
                now.music[tape.byteAt(at)] = tape.byteAt(at + 1);
                told++;
            } else {
                latestCreaks++;
            }
        }
        tape.length = 0;
        changes.clear();
        return accept(told);
    }

    public int creaks() {
        return latestCreaks;
    }

    public int law() {
        if (now.lawCount >= LAWS) {
            tape.length = 0;
            return refuse(NO_ROOM);
        }
        if (!reader.read(false)) {
            return refuse(BAD_TEXT);
        }
        now.laws[now.lawCount] = reader.draft.copy();
        now.lawCount++;
        return accept(now.lawCount - 1);
    }

    public int orders() {
        runner.stopped = NONE;
        if (!reader.read(true)) {
            return refuse(BAD_TEXT);
        }
        int run = runner.runAll(reader.draft, now, changes, players);
        return run < 0 ? refuse(run) : accept(run);
    }

    public int fault() {
        return reader.fault;
    }

    public int stopped() {
        return runner.stopped;
    }

    public int force(int law) {
        if (law != NONE && !now.hasLaw(law)) {
            return refuse(NO_SUCH);
        }
        int was = now.inForce;
        now.inForce = law;
        return accept(was);
    }

    public int note(int key, int beat) {
        return change(NOTE, key, beat);
    }

    public int give(int key, int house) {
        return change(GIVE, key, house);
    }

    public int shift(int n) {
        return change(SHIFT, n, 0);
    }

    public int pass() {
        return change(PASS, 0, 0);
    }

    public int undo() {
        int kind = changes.takeBack(now);
        return kind < 0 ? refuse(CANNOT_BE) : accept(kind);
    }

    public int drill() {
        return players.firstLost(now);
    }

    public int least(int beat) {
        if (beat == NONE) {
            return players.mindedInAll(now);
        }
        return isBeat(beat) ? players.mindedAt(now, beat) : NONE;
    }

    public int who(int beat, int key) {
        if (!isBeat(beat) || !isKey(key)) {
            return NONE;
        }
        return players.lightestWay(now, beat) < NEVER ? players.player(key) : NONE;
    }

    public int ways(int beat) {
        return isBeat(beat) ? players.howManyWays(now, beat) : NONE;
    }

    public int might(int beat, int key) {
        return isBeat(beat) && isKey(key) ? players.whoCould(now, beat, key) : NONE;
    }

    public int cover(int what) {
        if (what < 0 || what > 1) {
            return NONE;
        }
        int houses = players.fewestHouses(now);
        return what == 0 && houses != NONE ? Integer.bitCount(houses) : houses;
    }

    public int run(int houses, int what) {
        if (houses < 0 || houses >= 1 << now.houses || what < 0 || what > 1) {
            return NONE;
        }
        int longest = 0;
        int first = NONE;
        int length = 0;
        for (int beat = 0; beat < BEATS; beat++) {
            length = players.canHave(now, beat, houses) ? length + 1 : 0;
            if (length > longest) {
                longest = length;
                first = beat - length + 1;
            }
        }
        return what == 0 ? longest : first;
    }

    public int best(int what) {
        if (what < 0 || what > 1) {
            return NOTHING;
        }
        int bestShift = NOTHING;
        int bestMinded = NOTHING;
        for (int n = -FARTHEST; n <= FARTHEST; n++) {
            int minded = mindedIfShifted(n);
            if (minded != NONE && (bestMinded == NOTHING || minded < bestMinded)) {
                bestShift = n;
                bestMinded = minded;
            }
        }
        return what == 0 ? bestShift : bestMinded;
    }

    public int motif(int keys) {
        if (keys < 0 || keys > ALL_KEYS) {
            return refuse(BAD_NUMBER);
        }
        if (now.sets >= SETS) {
            return refuse(NO_ROOM);
        }
        now.motif[now.sets] = keys;
        now.sets++;
        return accept(now.sets);
    }

    public int forget() {
        int had = now.sets;
        now.sets = 0;
        return had;
    }

    public int find(int i) {
        if (i < NONE || now.sets == 0) {
            return NONE;
        }
        int farthest = now.motifHasKeys() ? FARTHEST : 0;
        int found = 0;
        for (int beat = 0; beat + now.sets <= BEATS; beat++) {
            for (int n = -farthest; n <= farthest; n++) {
                if (now.motifStands(beat, n)) {
                    if (found == i) {
                        return 100 * beat + n + FARTHEST;
                    }
                    found++;
                }
            }
        }
        return i == NONE ? found : NONE;
    }

    public int owes(int one, int other) {
        if (!now.hasHouse(one) || !now.hasHouse(other) || one == other || !debts.tally(now, players)) {
            return NONE;
        }
        return debts.owed[one * HOUSES + other];
    }

    public int settled() {
        return debts.tally(now, players) ? debts.payments(now.houses) : NONE;
    }

    public long few(int k, int n) {
        if (k < 1 || k > MOST_FEW || n < 0 || n > MOST_NOTES) {
            return NONE;
        }
        int slip = now.terms[SLIP];
        Arrays.fill(chances, 0L);
        chances[0] = WHOLE_CHANCE;
        for (int note = 0; note < n; note++) {
            for (int slips = k - 1; slips > 0; slips--) {
                chances[slips] = chances[slips] * (10 - slip) / 10 + chances[slips - 1] * slip / 10;
            }
            chances[0] = chances[0] * (10 - slip) / 10;
        }
        long sum = 0;
        for (int slips = 0; slips < k; slips++) {
            sum += chances[slips];
        }
        return sum;
    }

    public int compare(int law) {
        if (law != NONE && !now.hasLaw(law)) {
            return NONE;
        }
        paper.copyFrom(now);
        paper.inForce = law;
        return players.mindedInAll(paper);
    }

    public int evenings(int seed, int n) {
        if (seed < 0 || seed > MOST_SEED || n < 1 || n > MOST_EVENINGS) {
            return refuse(BAD_NUMBER);
        }
        if (now.houses == 0) {
            return refuse(CANNOT_BE);
        }
        evening.copyFrom(now);
        drewEvenings = true;
        int s = seed;
        int inFull = 0;
        for (int i = 0; i < n && evening.terms[DAY] < LAST_DAY; i++) {
            s = spendEvening(s);
            if (players.firstLost(evening) == BEATS) {
                inFull++;
            }
        }
        return accept(inFull);
    }

    public int drawn(int k, int what) {
        if (!drewEvenings) {
            return NONE;
        }
        if (what == 0 && isBeat(k)) {
            return evening.music[k];
        }
        return what == 1 && isKey(k) ? evening.owners[k] : NONE;
    }

    public int image(int k) {
        if (k < 0 || k >= IMAGES) {
            return refuse(BAD_NUMBER);
        }
        images[k].copyFrom(now);
        kept[k] = true;
        return accept(0);
    }

    public int back(int k) {
        if (k < 0 || k >= IMAGES) {
            return refuse(BAD_NUMBER);
        }
        if (!kept[k]) {
            return refuse(NO_SUCH);
        }
        now.copyFrom(images[k]);
        changes.clear();
        return accept(0);
    }

    public int count(int what) {
        if (what >= 6 && what <= 10) {
            return refusals[what - 6];
        }
        if (what >= 12 && what <= 14) {
            return now.terms[what - 12];
        }
        switch (what) {
            case 0:
                return now.houses;
            case 1:
                return now.countNotes();
            case 2:
                return now.sets;
            case 3:
                return now.lawCount;
            case 4:
                return changes.size;
            case 5:
                return tape.length;
            case 11:
                return now.inForce;
            default:
                return NONE;
        }
    }

    public int status() {
        return latestStatus;
    }

    private int refuse(int by) {
        latestStatus = by;
        switch (by) {
            case BAD_NUMBER:
                refusals[0]++;
                break;
            case NO_SUCH:
                refusals[1]++;
                break;
            case CANNOT_BE:
                refusals[2]++;
                break;
            case NO_ROOM:
                refusals[3]++;
                break;
            default:
                refusals[4]++;
                break;
        }
        return by;
    }

    private int accept(int answer) {
        latestStatus = 0;
        return answer;
    }

    private int change(int kind, int first, int second) {
        int answer = changes.make(now, kind, first, second);
        changes.keepLatest();
        return answer < 0 ? refuse(answer) : accept(answer);
    }

    private int mindedIfShifted(int n) {
        if (!now.canShift(n)) {
            return NONE;
        }
        paper.copyFrom(now);
        paper.shiftBy(n);
        return players.mindedInAll(paper);
    }

    private int spendEvening(int seed) {
        int s = stir(seed);
        int beat = s % BEATS;
        s = stir(s);
        int key = s % KEYS;
        s = stir(s);
        int house = evening.houses > 0 ? s % evening.houses : NONE;
        s = stir(s);
        if (s % 3 == 0) {
            evening.music[beat] ^= 1 << key;
        } else if (s % 3 == 1) {
            evening.owners[key] = house;
        }
        evening.terms[DAY]++;
        return s;
    }

    private static int stir(int s) {
        return (s * 1103 + 12345) % 1000003;
    }

    private static int mostTerm(int what) {
        if (what == DAY) {
            return LAST_DAY;
        }
        return what == SLIP ? MOST_SLIP : MOST_MOOD;
    }

    private static boolean isKey(int key) {
        return key >= 0 && key < KEYS;
    }

    private static boolean isBeat(int beat) {
        return beat >= 0 && beat < BEATS;
    }

    private static boolean isLetter(int sign) {
        return sign >= 'a' && sign <= 'z';
    }

    private static boolean isDigit(int sign) {
        return sign >= '0' && sign <= '9';
    }

    /** All that an image keeps; the other streets are the same on paper. */
    private static final class Street {
        int houses;
        final int[] hands = new int[HOUSES];
        final int[] reach = new int[HOUSES];
        final int[] owners = new int[KEYS];
        final int[] music = new int[BEATS];
        final int[] motif = new int[SETS];
        int sets;
        final Text[] laws = new Text[LAWS];
        int lawCount;
        int inForce = NONE;
        final int[] terms = new int[3];

        Street() {
            Arrays.fill(owners, NONE);
            terms[SLIP] = 1;
        }

        void copyFrom(Street other) {
            houses = other.houses;
            System.arraycopy(other.hands, 0, hands, 0, HOUSES);
            System.arraycopy(other.reach, 0, reach, 0, HOUSES);
            System.arraycopy(other.owners, 0, owners, 0, KEYS);
            System.arraycopy(other.music, 0, music, 0, BEATS);
            System.arraycopy(other.motif, 0, motif, 0, SETS);
            sets = other.sets;
            for (int i = 0; i < LAWS; i++) {
                laws[i] = other.laws[i];
            }
            lawCount = other.lawCount;
            inForce = other.inForce;
            System.arraycopy(other.terms, 0, terms, 0, terms.length);
        }

        boolean hasHouse(int house) {
            return house >= 0 && house < houses;
        }

        boolean hasLaw(int law) {
            return law >= 0 && law < lawCount;
        }

        Text lawInForce() {
            return hasLaw(inForce) ? laws[inForce] : null;
        }

        int keysOf(int house) {
            int keys = 0;
            for (int key = 0; key < KEYS; key++) {
                if (owners[key] == house) {
                    keys |= 1 << key;
                }
            }
            return keys;
        }

        int countNotes() {
            int notes = 0;
            for (int beat = 0; beat < BEATS; beat++) {
                notes += Integer.bitCount(music[beat]);
            }
            return notes;
        }

        boolean canShift(int n) {
            for (int beat = 0; beat < BEATS; beat++) {
                if (shifted(music[beat], n) == NONE) {
                    return false;
                }
            }
            return true;
        }

        void shiftBy(int n) {
            for (int beat = 0; beat < BEATS; beat++) {
                music[beat] = shifted(music[beat], n);
            }
        }

        boolean motifHasKeys() {
            for (int i = 0; i < sets; i++) {
                if (motif[i] != 0) {
                    return true;
                }
            }
            return false;
        }

        boolean motifStands(int beat, int n) {
            for (int i = 0; i < sets; i++) {
                if (!isBeat(beat + i) || shifted(motif[i], n) != music[beat + i]) {
                    return false;
                }
            }
            return true;
        }

        /** The set n keys further, or NONE if a key would be beyond. */
        static int shifted(int keys, int n) {
            if (n >= 0) {
                return (keys << n) > ALL_KEYS ? NONE : keys << n;
            }
            return ((keys >> -n) << -n) != keys ? NONE : keys >> -n;
        }
    }

    private static final class Tape {
        final byte[] bytes = new byte[TAPE_ROOM];
        int length;

        Tape() {
        }

        void add(int four) {
            for (int bits = 24; bits >= 0 && length < TAPE_ROOM; bits -= 8) {
                bytes[length] = (byte) (four >> bits);
                length++;
            }
        }

        int byteAt(int place) {
            return place >= 0 && place < length ? bytes[place] & 255 : NONE;
        }

        /** Where the token that begins here ends. */
        int tokenEnd(int from) {
            int to = from + 1;
            if (isLetter(byteAt(from))) {
                while (to < length && isLetter(byteAt(to))) {
                    to++;
                }
            } else if (isDigit(byteAt(from))) {
                while (to < length && isDigit(byteAt(to))) {
                    to++;
                }
            }
            return to;
        }

        /** The number there; one too great for any use, if it is greater than any may be. */
        int numberAt(int from, int to) {
            int number = 0;
            for (int place = from; place < to; place++) {
                number = Math.min(number * 10 + byteAt(place) - '0', MOST_NUMBER + 1);
            }
            return number;
        }

        /** The kind of the word there. */
        int wordAt(int from, int to) {
            int kind = FIRST_WORD;
            int start = 0;
            for (int i = 0; i < WORDS.length(); i++) {
                if (WORDS.charAt(i) == ' ') {
                    if (i - start == to - from && sameSigns(from, start, i)) {
                        return kind;
                    }
                    kind++;
                    start = i + 1;
                }
            }
            return OTHER_WORD;
        }

        private boolean sameSigns(int from, int start, int end) {
            for (int i = start; i < end; i++) {
                if (byteAt(from + i - start) != WORDS.charAt(i)) {
                    return false;
                }
            }
            return true;
        }
    }

    /** A read text of either language: its clauses, and their sums and tests as one code for the Reckoner. */
    private static final class Text {
        int clauses;
        int length;
        boolean asksDrill;
        final int[] verb;
        final int[] times;
        final int[] first;
        final int[] second;
        final int[] test;
        final int[] code;

        Text(int clauseRoom, int codeRoom) {
            verb = new int[Math.max(clauseRoom, 0)];
            times = new int[Math.max(clauseRoom, 0)];
            first = new int[Math.max(clauseRoom, 0)];
            second = new int[Math.max(clauseRoom, 0)];
            test = new int[Math.max(clauseRoom, 0)];
            code = new int[Math.max(codeRoom, 0)];
        }

        Text copy() {
            Text same = new Text(clauses, length);
            same.clauses = clauses;
            same.length = length;
            same.asksDrill = asksDrill;
            System.arraycopy(verb, 0, same.verb, 0, clauses);
            System.arraycopy(times, 0, same.times, 0, clauses);
            System.arraycopy(first, 0, same.first, 0, clauses);
            System.arraycopy(second, 0, same.second, 0, clauses);
            System.arraycopy(test, 0, same.test, 0, clauses);
            System.arraycopy(code, 0, same.code, 0, length);
            return same;
        }

        void clear() {
            clauses = 0;
            length = 0;
            asksDrill = false;
        }

        void begin(int clause, int itsVerb) {
            if (clause < 0 || clause >= verb.length) {
                return;
            }
            clauses = clause + 1;
            verb[clause] = itsVerb;
            times[clause] = 1;
            first[clause] = NONE;
            second[clause] = NONE;
            test[clause] = NONE;
        }

        // Each token puts one number here at most, so the tape's length is room enough.
        void emit(int op, int with) {
            if (length < code.length) {
                code[length] = (with << OP_BITS) | op;
                length++;
            }
        }

        void landHere(int jump) {
            if (jump >= 0 && jump < length) {
                code[jump] |= length << OP_BITS;
            }
        }
    }

    /** Reads the tape; where it says no, the token at hand is the one that can't go on. */
    private static final class Reader {
        final Text draft = new Text(CLAUSES, TAPE_ROOM);
        final Tape tape;
        final int[] kinds = new int[TAPE_ROOM + 1];
        final int[] places = new int[TAPE_ROOM + 1];
        final int[] numbers = new int[TAPE_ROOM + 1];
        int tokens;
        boolean ofOrders;
        int at;
        int token;
        int parts;
        int open;
        int fault = NONE;

        Reader(Tape tape) {
            this.tape = tape;
        }

        /** Reads the tape into the draft and empties it. */
        boolean read(boolean asOrders) {
            splitTape();
            tape.length = 0;
            draft.clear();
            ofOrders = asOrders;
            at = 0;
            token = kinds[0];
            parts = 0;
            open = 0;
            fault = NONE;
            for (int clause = 0; clause < CLAUSES; clause++) {
                boolean stands = ofOrders ? readOrder(clause) : readRule(clause);
                if (stands && token == END_TOKEN) {
                    return true;
                }
                if (!stands || token != ';') {
                    break;
                }
                next();
            }
            fault = places[at];
            return false;
        }

        private void splitTape() {
            tokens = 0;
            int from = 0;
            for (int n = 0; n < TAPE_ROOM && from < tape.length; n++) {
                int to = tape.tokenEnd(from);
                if (tape.byteAt(from) != ' ') {
                    addToken(from, to);
                }
                from = to;
            }
            kinds[tokens] = END_TOKEN;
            places[tokens] = tape.length;
        }

        private void addToken(int from, int to) {
            int sign = tape.byteAt(from);
            numbers[tokens] = NONE;
            kinds[tokens] = sign;
            if (isDigit(sign)) {
                kinds[tokens] = NUMBER_TOKEN;
                numbers[tokens] = tape.numberAt(from, to);
            } else if (isLetter(sign)) {
                kinds[tokens] = tape.wordAt(from, to);
            }
            places[tokens] = from;
            tokens++;
        }

        private void next() {
            if (at < tokens) {
                at++;
            }
            token = kinds[at];
        }

        private boolean readRule(int clause) {
            if (token < MINDS_TOKEN || token > BARS_TOKEN) {
                return false;
            }
            int verb = token - MINDS_TOKEN + MINDS;
            draft.begin(clause, verb);
            next();
            if (verb == MINDS) {
                draft.first[clause] = draft.length;
                if (!sum()) {
                    return false;
                }
                draft.emit(STOP, 0);
            }
            return readCondition(clause);
        }

        private boolean readOrder(int clause) {
            if (token < NOTE_TOKEN || token > PASS_TOKEN) {
                return false;
            }
            int verb = token - NOTE_TOKEN + NOTE;
            draft.begin(clause, verb);
            next();
            if (verb != PASS) {
                draft.first[clause] = draft.length;
                if (!sum()) {
                    return false;
                }
                draft.emit(STOP, 0);
            }
            if (verb == NOTE || verb == GIVE) {
                if (token != (verb == NOTE ? AT_TOKEN : TO_TOKEN)) {
                    return false;
                }
                next();
                draft.second[clause] = draft.length;
                if (!sum()) {
                    return false;
                }
                draft.emit(STOP, 0);
            }
            return readTimes(clause) && readCondition(clause);
        }

        private boolean readTimes(int clause) {
            if (token != TIMES_TOKEN) {
                return true;
            }
            next();
            if (token != NUMBER_TOKEN || numbers[at] < 1 || numbers[at] > MOST_TIMES) {
                return false;
            }
            draft.times[clause] = numbers[at];
            next();
            return true;
        }

        private boolean readCondition(int clause) {
            if (token != IF_TOKEN) {
                return true;
            }
            next();
            draft.test[clause] = draft.length;
            if (!test()) {
                return false;
            }
            draft.emit(STOP, 0);
            return true;
        }

        private boolean test() {
            if (!both()) {
                return false;
            }
            for (int n = 0; n < TAPE_ROOM && token == OR_TOKEN; n++) {
                int jump = draft.length;
                draft.emit(OR, 0);
                next();
                if (!both()) {
                    return false;
                }
                draft.landHere(jump);
            }
            return true;
        }

        private boolean both() {
            if (!plain()) {
                return false;
            }
            for (int n = 0; n < TAPE_ROOM && token == AND_TOKEN; n++) {
                int jump = draft.length;
                draft.emit(AND, 0);
                next();
                if (!plain()) {
                    return false;
                }
                draft.landHere(jump);
            }
            return true;
        }

        // Of many "not" in a row only whether they are odd matters: a broken test stays broken either way.
        private boolean plain() {
            boolean not = false;
            for (int n = 0; n < TAPE_ROOM && token == NOT_TOKEN; n++) {
                not = !not;
                next();
            }
            if (token == '(') {
                if (open >= BRACKETS) {
                    return false;
                }
                open++;
                next();
                if (!test() || token != ')') {
                    return false;
                }
                open--;
                next();
            } else {
                if (!sum() || token != '<' && token != '>' && token != '=') {
                    return false;
                }
                int op = comparison(token);
                next();
                if (!sum()) {
                    return false;
                }
                draft.emit(op, 0);
            }
            if (not) {
                draft.emit(NOT, 0);
            }
            return true;
        }

        private boolean sum() {
            if (!product()) {
                return false;
            }
            for (int n = 0; n < TAPE_ROOM && (token == '+' || token == '-'); n++) {
                int op = token == '+' ? ADD : SUBTRACT;
                next();
                if (!product()) {
                    return false;
                }
                draft.emit(op, 0);
            }
            return true;
        }

        private boolean product() {
            if (!part()) {
                return false;
            }
            for (int n = 0; n < TAPE_ROOM && (token == '*' || token == '/' || token == '%'); n++) {
                int op = multiplication(token);
                next();
                if (!part()) {
                    return false;
                }
                draft.emit(op, 0);
            }
            return true;
        }

        private boolean part() {
            if (token == '[') {
                if (open >= BRACKETS) {
                    return false;
                }
                open++;
                next();
                if (!sum() || token != ']') {
                    return false;
                }
                open--;
                next();
                return true;
            }
            if (parts >= PARTS) {
                return false;
            }
            parts++;
            if (token == NUMBER_TOKEN && numbers[at] <= MOST_NUMBER) {
                draft.emit(NUMBER, numbers[at]);
                next();
                return true;
            }
            return ofOrders ? readOrderWord() : readRuleWord();
        }

        private boolean readRuleWord() {
            if (token < HOUSE_TOKEN || token >= HOUSE_TOKEN + RULE_WORDS) {
                return false;
            }
            draft.emit(WORD, token - HOUSE_TOKEN);
            next();
            return true;
        }

        private boolean readOrderWord() {
            int word = orderWord(token);
            if (word == NONE) {
                return false;
            }
            next();
            int place = 0;
            if (word == MUSIC_WORD || word == OWNER_WORD) {
                int room = word == MUSIC_WORD ? BEATS : KEYS;
                if (token != NUMBER_TOKEN || numbers[at] >= room) {
                    return false;
                }
                place = numbers[at];
                next();
            }
            draft.asksDrill = draft.asksDrill || word == DRILL_WORD;
            draft.emit(WORD, word + place);
            return true;
        }

        private static int comparison(int token) {
            if (token == '<') {
                return LESS;
            }
            return token == '>' ? MORE : SAME;
        }

        private static int multiplication(int token) {
            if (token == '*') {
                return MULTIPLY;
            }
            return token == '/' ? DIVIDE : REMAIN;
        }

        private static int orderWord(int token) {
            switch (token) {
                case DAY_TOKEN:
                    return DAY_WORD;
                case DONE_TOKEN:
                    return DONE_WORD;
                case LATEST_TOKEN:
                    return LATEST_WORD;
                case DRILL_TOKEN:
                    return DRILL_WORD;
                case NOTES_TOKEN:
                    return NOTES_WORD;
                case MUSIC_TOKEN:
                    return MUSIC_WORD;
                case OWNER_TOKEN:
                    return OWNER_WORD;
                default:
                    return NONE;
            }
        }
    }

    /** Reckons a sum or a test (1, 0) of a read text. */
    private static final class Reckoner {
        // No more can be held at once than a text has parts.
        final long[] held = new long[PARTS];

        Reckoner() {
        }

        long reckon(int[] code, int start, int[] words) {
            int top = 0;
            int at = start;
            for (int step = 0; step < code.length; step++) {
                if (at < 0 || at >= code.length) {
                    return BROKEN;
                }
                int op = code[at] & ((1 << OP_BITS) - 1);
                int with = code[at] >> OP_BITS;
                at++;
                if (op == STOP) {
                    return top == 1 ? held[0] : BROKEN;
                }
                if (op == NUMBER || op == WORD) {
                    if (top >= PARTS || op == WORD && (with < 0 || with >= words.length)) {
                        return BROKEN;
                    }
                    held[top] = op == NUMBER ? with : words[with];
                    top++;
                } else if (op >= NOT) {
                    if (top < 1) {
                        return BROKEN;
                    }
                    if (op == NOT) {
                        held[top - 1] = 1 - held[top - 1];
                    } else if (held[top - 1] == (op == OR ? 1 : 0)) {
                        at = with;
                    } else {
                        top--;
                    }
                } else {
                    if (top < 2) {
                        return BROKEN;
                    }
                    top--;
                    held[top - 1] = join(op, held[top - 1], held[top]);
                    if (held[top - 1] == BROKEN) {
                        return BROKEN;
                    }
                }
            }
            return BROKEN;
        }

        private static long join(int op, long left, long right) {
            if ((op == DIVIDE || op == REMAIN) && right == 0) {
                return BROKEN;
            }
            long value;
            switch (op) {
                case ADD:
                    value = left + right;
                    break;
                case SUBTRACT:
                    value = left - right;
                    break;
                case MULTIPLY:
                    value = left * right;
                    break;
                case DIVIDE:
                    value = left / right;
                    break;
                case REMAIN:
                    value = left % right;
                    break;
                case LESS:
                    value = left < right ? 1 : 0;
                    break;
                case MORE:
                    value = left > right ? 1 : 0;
                    break;
                default:
                    value = left == right ? 1 : 0;
                    break;
            }
            return value > SUM_LIMIT || value < -SUM_LIMIT ? BROKEN : value;
        }
    }

    /** Says what the law in force tells of a house, a key and a beat. */
    private static final class Judge {
        final Reckoner reckoner = new Reckoner();
        final int[] words = new int[RULE_WORDS];
        int minded;
        boolean can;

        Judge() {
        }

        /** Without minding only can is told, and minded is as without a law. */
        void ask(Street street, int house, int key, int beat, boolean minding) {
            minded = 1;
            can = street.owners[key] == house;
            Text law = street.lawInForce();
            if (law == null) {
                return;
            }
            tellWords(street, house, key, beat);
            boolean bars = false;
            for (int c = 0; c < law.clauses; c++) {
                if (law.verb[c] == MINDS && !minding) {
                    continue;
                }
                long so = law.test[c] == NONE ? 1 : reckoner.reckon(law.code, law.test[c], words);
                if (so == BROKEN || so == 0) {
                    continue;
                }
                if (law.verb[c] == MINDS) {
                    long sum = reckoner.reckon(law.code, law.first[c], words);
                    minded = sum == BROKEN ? minded : (int) Math.max(0, Math.min(MOST_MINDED, sum));
                } else if (law.verb[c] == LENDS) {
                    can = true;
                } else {
                    bars = true;
                }
            }
            can = can && !bars;
        }

        private void tellWords(Street street, int house, int key, int beat) {
            words[0] = house;
            words[1] = key;
            words[2] = street.owners[key];
            words[3] = beat;
            words[4] = street.hands[house];
            words[5] = street.reach[house];
            words[6] = street.terms[DAY];
            words[7] = street.terms[MOOD];
        }
    }

    /** Who plays what at a beat: whether, how lightly and in how many ways it can be had in full. */
    private static final class Players {
        final Judge judge;
        final int[] can = new int[HOUSES];
        final int[] couldBefore = new int[HOUSES];
        final long[] weight = new long[HOUSES * KEYS];
        final long[] partWeight = new long[ALL_KEYS + 1];
        final long[] lightest = new long[ALL_KEYS + 1];
        final int[] waysOf = new int[ALL_KEYS + 1];
        final boolean[] haveAll = new boolean[1 << HOUSES];
        Street street;
        int keys;

        Players(Judge judge) {
            this.judge = judge;
        }

        int firstLost(Street on) {
            for (int beat = 0; beat < BEATS; beat++) {
                if (!canHave(on, beat, (1 << on.houses) - 1)) {
                    return beat;
                }
            }
            return BEATS;
        }

        boolean canHave(Street on, int beat, int houses) {
            lookAt(on, beat, false);
            return coveredBy(houses);
        }

        int mindedAt(Street on, int beat) {
            long weighs = lightestWay(on, beat);
            return weighs < NEVER ? (int) (weighs >> ROW_BITS) : NONE;
        }

        int mindedInAll(Street on) {
            int sum = 0;
            for (int beat = 0; beat < BEATS; beat++) {
                long weighs = lightestWay(on, beat);
                if (weighs >= NEVER) {
                    return NONE;
                }
                sum += (int) (weighs >> ROW_BITS);
            }
            return sum;
        }

        /** The weight of the first way in which least is minded; NEVER or more, if there is none. */
        long lightestWay(Street on, int beat) {
            lookAt(on, beat, true);
            Arrays.fill(lightest, NEVER);
            lightest[0] = 0;
            for (int house = 0; house < street.houses; house++) {
                weighParts(house);
                for (int set = keys; set > 0; set = (set - 1) & keys) {
                    int most = set & can[house];
                    for (int part = most; part > 0; part = (part - 1) & most) {
                        lightest[set] = Math.min(lightest[set], lightest[set ^ part] + partWeight[part]);
                    }
                }
            }
            return lightest[keys];
        }

        /** Who plays a key in the way that lightestWay() has just found. */
        int player(int key) {
            if ((keys >> key & 1) == 0) {
                return NONE;
            }
            return (int) (lightest[keys] >> rowPlace(key)) & ((1 << HOUSE_BITS) - 1);
        }

        int howManyWays(Street on, int beat) {
            lookAt(on, beat, false);
            Arrays.fill(waysOf, 0);
            waysOf[0] = 1;
            for (int house = 0; house < street.houses; house++) {
                weighParts(house);
                for (int set = keys; set > 0; set = (set - 1) & keys) {
                    int most = set & can[house];
                    for (int part = most; part > 0; part = (part - 1) & most) {
                        waysOf[set] += partWeight[part] < NEVER ? waysOf[set ^ part] : 0;
                    }
                }
            }
            return waysOf[keys];
        }

        int whoCould(Street on, int beat, int key) {
            lookAt(on, beat, false);
            System.arraycopy(can, 0, couldBefore, 0, HOUSES);
            int all = (1 << on.houses) - 1;
            int could = 0;
            for (int house = 0; house < on.houses; house++) {
                if ((couldBefore[house] >> key & 1) == 1) {
                    leaveKeyTo(house, key);
                    could |= coveredBy(all) ? 1 << house : 0;
                }
            }
            return could;
        }

        /** The fewest houses by whom all beats can be had, as bits (the lowest of these), or NONE. */
        int fewestHouses(Street on) {
            int all = (1 << on.houses) - 1;
            for (int houses = 0; houses <= all; houses++) {
                haveAll[houses] = true;
            }
            for (int beat = 0; beat < BEATS; beat++) {
                lookAt(on, beat, false);
                for (int houses = 0; houses <= all; houses++) {
                    haveAll[houses] = haveAll[houses] && coveredBy(houses);
                }
            }
            int fewest = NONE;
            for (int houses = 0; houses <= all; houses++) {
                if (haveAll[houses] && (fewest == NONE || Integer.bitCount(houses) < Integer.bitCount(fewest))) {
                    fewest = houses;
                }
            }
            return fewest;
        }

        private void lookAt(Street on, int beat, boolean minding) {
            street = on;
            keys = on.music[beat];
            for (int house = 0; house < on.houses; house++) {
                can[house] = 0;
                for (int key = 0; key < KEYS; key++) {
                    if ((keys >> key & 1) == 1) {
                        judge.ask(on, house, key, beat, minding);
                        can[house] |= judge.can ? 1 << key : 0;
                        weight[house * KEYS + key] = ((long) judge.minded << ROW_BITS) + ((long) house << rowPlace(key));
                    }
                }
            }
        }

        private void leaveKeyTo(int house, int key) {
            for (int other = 0; other < street.houses; other++) {
                can[other] = other == house ? couldBefore[other] : couldBefore[other] & ~(1 << key);
            }
        }

        /** Whether these houses alone can have all keys of the beat looked at. */
        private boolean coveredBy(int houses) {
            int playable = 0;
            for (int house = 0; house < street.houses; house++) {
                playable |= (houses >> house & 1) == 1 ? can[house] : 0;
            }
            return (keys & ~playable) == 0 && covered(keys, houses);
        }

        // One of the houses must play the lowest key. A part less some keys is a part, too, so that house may as well
        // take as many as it can. Each level has a house less.
        private boolean covered(int left, int houses) {
            if (left == 0) {
                return true;
            }
            int low = lowestKey(left);
            for (int house = 0; house < street.houses; house++) {
                if ((houses >> house & 1) == 1 && (can[house] >> low & 1) == 1) {
                    int near = can[house] & left & ((2 << (low + street.reach[house])) - 1);
                    if (coveredFrom(house, near, left, houses & ~(1 << house))) {
                        return true;
                    }
                }
            }
            return false;
        }

        private boolean coveredFrom(int house, int near, int left, int others) {
            int hands = street.hands[house];
            if (Integer.bitCount(near) <= hands) {
                return covered(left & ~near, others);
            }
            int lowest = near & -near;
            for (int part = near; part > 0; part = (part - 1) & near) {
                if ((part & lowest) != 0 && Integer.bitCount(part) == hands && covered(left & ~part, others)) {
                    return true;
                }
            }
            return false;
        }

        /** What each part of a house weighs; NEVER, if it is none. */
        private void weighParts(int house) {
            int most = can[house];
            partWeight[0] = 0;
            int part = 0;
            for (int n = 0; n < ALL_KEYS && part != most; n++) {
                part = (part - most) & most;
                int low = lowestKey(part);
                boolean fits = Integer.bitCount(part) <= street.hands[house] && (part >> low) < (2 << street.reach[house]);
                partWeight[part] = fits ? partWeight[part & (part - 1)] + weight[house * KEYS + low] : NEVER;
            }
        }

        private static int rowPlace(int key) {
            return HOUSE_BITS * (KEYS - 1 - key);
        }

        private static int lowestKey(int keys) {
            for (int key = 0; key < KEYS - 1; key++) {
                if ((keys >> key & 1) == 1) {
                    return key;
                }
            }
            return KEYS - 1;
        }
    }

    /** What the houses owe one another for the keys they play, and how few payments settle it. */
    private static final class Debts {
        final int[] owed = new int[HOUSES * HOUSES];
        final int[] heaps = new int[1 << HOUSES];

        Debts() {
        }

        /** False, if the music can't be had. */
        boolean tally(Street street, Players players) {
            Arrays.fill(owed, 0);
            for (int beat = 0; beat < BEATS; beat++) {
                if (players.lightestWay(street, beat) >= NEVER) {
                    return false;
                }
                for (int key = 0; key < KEYS; key++) {
                    int player = players.player(key);
                    int owner = street.owners[key];
                    if (street.hasHouse(player) && street.hasHouse(owner) && owner != player) {
                        owed[player * HOUSES + owner]++;
                    }
                }
            }
            return true;
        }

        // A house that is even is a heap of its own, so all houses less all heaps is the same as without these.
        int payments(int houses) {
            heaps[0] = 0;
            for (int heap = 1; heap < 1 << houses; heap++) {
                int most = 0;
                int balance = 0;
                for (int house = 0; house < houses; house++) {
                    if ((heap >> house & 1) == 1) {
                        most = Math.max(most, heaps[heap & ~(1 << house)]);
                        balance += balanceOf(house, houses);
                    }
                }
                heaps[heap] = balance == 0 ? most + 1 : most;
            }
            return houses - heaps[(1 << houses) - 1];
        }

        private int balanceOf(int house, int houses) {
            int balance = 0;
            for (int other = 0; other < houses; other++) {
                balance += owed[other * HOUSES + house] - owed[house * HOUSES + other];
            }
            return balance;
        }
    }

    /** Makes changes and takes them back. While orders run all of theirs are kept, so that all can be taken back. */
    private static final class Changes {
        final int[] kinds = new int[CHANGES_ROOM];
        final int[] firsts = new int[CHANGES_ROOM];
        final int[] seconds = new int[CHANGES_ROOM];
        int size;

        Changes() {
        }

        void clear() {
            size = 0;
        }

        /** What the change tells, or by what it is refused. */
        int make(Street street, int kind, int first, int second) {
            switch (kind) {
                case NOTE:
                    return changeNote(street, first, second);
                case GIVE:
                    return giveKey(street, first, second);
                case SHIFT:
                    return shiftMusic(street, first);
                default:
                    return passDay(street);
            }
        }

        private int changeNote(Street street, int key, int beat) {
            if (!isKey(key) || !isBeat(beat)) {
                return BAD_NUMBER;
            }
            street.music[beat] ^= 1 << key;
            keep(NOTE, key, beat);
            return street.music[beat];
        }

        private int giveKey(Street street, int key, int house) {
            if (!isKey(key)) {
                return BAD_NUMBER;
            }
            if (house != NONE && !street.hasHouse(house)) {
                return NO_SUCH;
            }
            int was = street.owners[key];
            if (was == house) {
                return CANNOT_BE;
            }
            street.owners[key] = house;
            keep(GIVE, key, was);
            return was == NONE ? HOUSES : was;
        }

        private int shiftMusic(Street street, int n) {
            if (n < -FARTHEST || n > FARTHEST || n == 0) {
                return BAD_NUMBER;
            }
            if (!street.canShift(n)) {
                return CANNOT_BE;
            }
            street.shiftBy(n);
            keep(SHIFT, n, 0);
            return street.countNotes();
        }

        private int passDay(Street street) {
            if (street.terms[DAY] >= LAST_DAY) {
                return CANNOT_BE;
            }
            street.terms[DAY]++;
            keep(PASS, 0, 0);
            return street.terms[DAY];
        }

        private void keep(int kind, int first, int second) {
            if (size >= CHANGES_ROOM) {
                keepLatest();
            }
            kinds[size] = kind;
            firsts[size] = first;
            seconds[size] = second;
            size++;
        }

        void keepLatest() {
            int over = size - UNDO_ROOM;
            if (over <= 0) {
                return;
            }
            System.arraycopy(kinds, over, kinds, 0, UNDO_ROOM);
            System.arraycopy(firsts, over, firsts, 0, UNDO_ROOM);
            System.arraycopy(seconds, over, seconds, 0, UNDO_ROOM);
            size = UNDO_ROOM;
        }

        /** Which kind was taken back, or NONE. */
        int takeBack(Street street) {
            if (size == 0) {
                return NONE;
            }
            size--;
            int first = firsts[size];
            int second = seconds[size];
            switch (kinds[size]) {
                case NOTE:
                    street.music[second] ^= 1 << first;
                    break;
                case GIVE:
                    street.owners[first] = second;
                    break;
                case SHIFT:
                    street.shiftBy(-first);
                    break;
                default:
                    street.terms[DAY]--;
                    break;
            }
            return kinds[size];
        }
    }

    /** Runs read orders, wholly or not at all. */
    private static final class Runner {
        final Reckoner reckoner = new Reckoner();
        final int[] words = new int[ORDER_WORDS];
        int done;
        int latest;
        int stopped = NONE;

        Runner() {
        }

        int runAll(Text text, Street street, Changes changes, Players players) {
            done = 0;
            latest = NONE;
            for (int clause = 0; clause < text.clauses; clause++) {
                for (int time = 0; time < text.times[clause]; time++) {
                    tellWords(street);
                    if (text.asksDrill) {
                        words[DRILL_WORD] = players.firstLost(street);
                    }
                    if (!runOnce(text, clause, street, changes)) {
                        stopped = clause;
                        takeAllBack(street, changes);
                        return CANNOT_BE;
                    }
                }
            }
            changes.keepLatest();
            return done;
        }

        private boolean runOnce(Text text, int clause, Street street, Changes changes) {
            long so = text.test[clause] == NONE ? 1 : reckoner.reckon(text.code, text.test[clause], words);
            if (so == BROKEN || so == 0) {
                return true;
            }
            long first = sumOf(text, text.first[clause]);
            long second = sumOf(text, text.second[clause]);
            if (first == BROKEN || second == BROKEN) {
                return false;
            }
            int told = changes.make(street, text.verb[clause], (int) first, (int) second);
            if (told < 0) {
                return false;
            }
            if (text.verb[clause] == SHIFT) {
                latest = told;
            }
            done++;
            return true;
        }

        private long sumOf(Text text, int start) {
            return start == NONE ? 0 : reckoner.reckon(text.code, start, words);
        }

        private void tellWords(Street street) {
            words[DAY_WORD] = street.terms[DAY];
            words[DONE_WORD] = done;
            words[LATEST_WORD] = latest;
            words[NOTES_WORD] = street.countNotes();
            for (int beat = 0; beat < BEATS; beat++) {
                words[MUSIC_WORD + beat] = street.music[beat];
            }
            for (int key = 0; key < KEYS; key++) {
                words[OWNER_WORD + key] = street.owners[key];
            }
        }

        private void takeAllBack(Street street, Changes changes) {
            for (int i = 0; i < done; i++) {
                changes.takeBack(street);
            }
        }
    }
}
