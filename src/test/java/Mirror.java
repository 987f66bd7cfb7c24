import java.util.ArrayList;
import java.util.Arrays;
import java.util.List;

/**
 * The document once more, slowly and by other means than the class: ways are listed one by one, texts become trees,
 * changes are undone by copies of all. It throws Refused where a call is refused.
 */
final class Mirror {
    static final class Refused extends RuntimeException {
        final int by;

        Refused(int by) {
            super(null, null, false, false);
            this.by = by;
        }
    }

    static final class Fault extends RuntimeException {
        final int place;

        Fault(int place) {
            super(null, null, false, false);
            this.place = place;
        }
    }

    static final class Broken extends RuntimeException {
        Broken() {
            super(null, null, false, false);
        }
    }

    interface Words {
        long tell(String word, int place);
    }

    interface Tree {
        long ask(Words words);
    }

    static final class Clause {
        String verb;
        Tree first;
        Tree second;
        Tree test;
        int times = 1;

        boolean so(Words words) {
            try {
                return test == null || test.ask(words) == 1;
            } catch (Broken broken) {
                return false;
            }
        }
    }

    static final class State {
        List<int[]> houses = new ArrayList<>();
        int[] owners = {-1, -1, -1, -1, -1, -1, -1, -1};
        int[] music = new int[16];
        List<Integer> motif = new ArrayList<>();
        List<List<Clause>> laws = new ArrayList<>();
        int force = -1;
        int[] terms = {0, 1, 0};

        State copy() {
            State other = new State();
            other.houses = new ArrayList<>(houses);
            other.owners = owners.clone();
            other.music = music.clone();
            other.motif = new ArrayList<>(motif);
            other.laws = new ArrayList<>(laws);
            other.force = force;
            other.terms = terms.clone();
            return other;
        }

        int notes() {
            int notes = 0;
            for (int set : music) {
                notes += Integer.bitCount(set);
            }
            return notes;
        }
    }

    State now = new State();
    final State[] images = new State[2];
    State evening;
    final List<State> before = new ArrayList<>();
    final List<Integer> kinds = new ArrayList<>();
    byte[] tape = new byte[0];
    int fault = -1;
    int creaks;
    int stopped = -1;
    int status;
    final int[] refusals = new int[5];

    // ---- asking the law

    int minded(State s, int house, int key, int beat) {
        int minded = 1;
        for (Clause clause : lawOf(s)) {
            if (clause.verb.equals("minds")) {
                Words words = words(s, house, key, beat);
                try {
                    if (clause.test == null || clause.test.ask(words) == 1) {
                        minded = (int) Math.max(0, Math.min(99, clause.first.ask(words)));
                    }
                } catch (Broken broken) {
                    continue;
                }
            }
        }
        return minded;
    }

    boolean can(State s, int house, int key, int beat) {
        boolean may = s.owners[key] == house;
        boolean barred = false;
        for (Clause clause : lawOf(s)) {
            boolean so = clause.so(words(s, house, key, beat));
            may |= so && clause.verb.equals("lends");
            barred |= so && clause.verb.equals("bars");
        }
        return may && !barred;
    }

    private static List<Clause> lawOf(State s) {
        return s.force < 0 ? List.of() : s.laws.get(s.force);
    }

    private static Words words(State s, int house, int key, int beat) {
        return (word, place) -> switch (word) {
            case "house" -> house;
            case "key" -> key;
            case "owner" -> s.owners[key];
            case "beat" -> beat;
            case "hands" -> s.houses.get(house)[0];
            case "reach" -> s.houses.get(house)[1];
            case "day" -> s.terms[0];
            case "mood" -> s.terms[2];
            default -> throw new IllegalStateException(word);
        };
    }

    // ---- ways, one by one

    final class Ways {
        final State s;
        final int[] keys;
        final boolean[][] can;
        final int[][] minded;
        final int houses;
        final int[] row;
        int count;
        int least = -1;
        int[] first;
        final int[] might = new int[8];

        Ways(State s, int beat, int houses) {
            this.s = s;
            this.houses = houses;
            int n = 0;
            int[] all = new int[8];
            for (int key = 0; key < 8; key++) {
                if ((s.music[beat] >> key & 1) == 1) {
                    all[n++] = key;
                }
            }
            keys = Arrays.copyOf(all, n);
            row = new int[n];
            can = new boolean[s.houses.size()][8];
            minded = new int[s.houses.size()][8];
            for (int house = 0; house < s.houses.size(); house++) {
                for (int key : keys) {
                    can[house][key] = can(s, house, key, beat);
                    minded[house][key] = minded(s, house, key, beat);
                }
            }
            list(0);
        }

        private void list(int i) {
            if (i == keys.length) {
                take();
                return;
            }
            for (int house = 0; house < s.houses.size(); house++) {
                if ((houses >> house & 1) == 1 && can[house][keys[i]]) {
                    row[i] = house;
                    if (fits(house, i)) {
                        list(i + 1);
                    }
                }
            }
        }

        private boolean fits(int house, int last) {
            int low = 9;
            int many = 0;
            for (int i = 0; i <= last; i++) {
                if (row[i] == house) {
                    low = Math.min(low, keys[i]);
                    many++;
                }
            }
            return many <= s.houses.get(house)[0] && keys[last] - low <= s.houses.get(house)[1];
        }

        private void take() {
            count++;
            int sum = 0;
            for (int i = 0; i < keys.length; i++) {
                sum += minded[row[i]][keys[i]];
                might[keys[i]] |= 1 << row[i];
            }
            if (least < 0 || sum < least) {
                least = sum;
                first = row.clone();
            }
        }
    }

    private Ways ways(State s, int beat) {
        return new Ways(s, beat, (1 << s.houses.size()) - 1);
    }

    int drillOf(State s) {
        for (int beat = 0; beat < 16; beat++) {
            if (ways(s, beat).count == 0) {
                return beat;
            }
        }
        return 16;
    }

    private int leastOf(State s) {
        int sum = 0;
        for (int beat = 0; beat < 16; beat++) {
            int least = ways(s, beat).least;
            if (least < 0) {
                return -1;
            }
            sum += least;
        }
        return sum;
    }

    private static int[] shifted(int[] sets, int n) {
        int[] other = new int[sets.length];
        for (int i = 0; i < sets.length; i++) {
            for (int key = 0; key < 8; key++) {
                if ((sets[i] >> key & 1) == 1) {
                    if (key + n < 0 || key + n > 7) {
                        return null;
                    }
                    other[i] |= 1 << key + n;
                }
            }
        }
        return other;
    }

    // ---- the tape and the languages

    private final class Reading {
        final byte[] text;
        final boolean orders;
        final List<String> tokens = new ArrayList<>();
        final List<Integer> places = new ArrayList<>();
        int at;
        int parts;
        int depth;

        Reading(byte[] text, boolean orders) {
            this.text = text;
            this.orders = orders;
            int i = 0;
            while (i < text.length) {
                int start = i;
                int kind = kind(text[i]);
                i++;
                while (kind > 0 && i < text.length && kind(text[i]) == kind) {
                    i++;
                }
                String token = new String(text, start, i - start, java.nio.charset.StandardCharsets.ISO_8859_1);
                if (!token.equals(" ")) {
                    tokens.add(token);
                    places.add(start);
                }
            }
            tokens.add("");
            places.add(text.length);
        }

        private static int kind(byte sign) {
            return sign >= 'a' && sign <= 'z' ? 1 : sign >= '0' && sign <= '9' ? 2 : 0;
        }

        String here() {
            return tokens.get(at);
        }

        Fault fault() {
            return new Fault(places.get(at));
        }

        boolean take(String... any) {
            if (Arrays.asList(any).contains(here())) {
                at++;
                return true;
            }
            return false;
        }

        void need(String token) {
            if (!take(token)) {
                throw fault();
            }
        }

        int number(int low, int high) {
            if (!here().matches("[0-9]+") || new java.math.BigInteger(here()).compareTo(java.math.BigInteger.valueOf(high)) > 0
                || Integer.parseInt(here()) < low) {
                throw fault();
            }
            return Integer.parseInt(tokens.get(at++));
        }

        List<Clause> all() {
            List<Clause> clauses = new ArrayList<>();
            do {
                if (clauses.size() == 12) {
                    throw fault();
                }
                clauses.add(clause());
            } while (take(";"));
            if (!here().isEmpty()) {
                throw fault();
            }
            return clauses;
        }

        Clause clause() {
            Clause clause = new Clause();
            clause.verb = here();
            if (!(orders ? take("note", "give", "shift", "pass") : take("minds", "lends", "bars"))) {
                throw fault();
            }
            switch (clause.verb) {
                case "minds", "shift" -> clause.first = sum();
                case "note", "give" -> {
                    clause.first = sum();
                    need(clause.verb.equals("note") ? "at" : "to");
                    clause.second = sum();
                }
                default -> { }
            }
            if (orders && take("times")) {
                clause.times = number(1, 20);
            }
            if (take("if")) {
                clause.test = test();
            }
            return clause;
        }

        Tree test() {
            Tree left = both();
            while (take("or")) {
                Tree one = left;
                Tree other = both();
                left = words -> one.ask(words) == 1 ? 1 : other.ask(words);
            }
            return left;
        }

        Tree both() {
            Tree left = plain();
            while (take("and")) {
                Tree one = left;
                Tree other = plain();
                left = words -> one.ask(words) == 0 ? 0 : other.ask(words);
            }
            return left;
        }

        Tree plain() {
            if (take("not")) {
                Tree other = plain();
                return words -> 1 - other.ask(words);
            }
            if (here().equals("(")) {
                open();
                Tree inner = test();
                depth--;
                need(")");
                return inner;
            }
            Tree left = sum();
            String op = here();
            if (!take("<", ">", "=")) {
                throw fault();
            }
            Tree right = sum();
            return words -> {
                int order = Long.compare(left.ask(words), right.ask(words));
                return order == (op.equals("<") ? -1 : op.equals(">") ? 1 : 0) ? 1 : 0;
            };
        }

        void open() {
            if (depth == 8) {
                throw fault();
            }
            depth++;
            at++;
        }

        Tree sum() {
            Tree left = term();
            while (here().equals("+") || here().equals("-")) {
                left = join(left, tokens.get(at++), term());
            }
            return left;
        }

        Tree term() {
            Tree left = part();
            while (here().equals("*") || here().equals("/") || here().equals("%")) {
                left = join(left, tokens.get(at++), part());
            }
            return left;
        }

        Tree part() {
            if (here().equals("[")) {
                open();
                Tree inner = sum();
                depth--;
                need("]");
                return inner;
            }
            if (parts == 50) {
                throw fault();
            }
            parts++;
            if (here().matches("[0-9]+")) {
                int number = number(0, 1000);
                return words -> number;
            }
            String word = here();
            if (!orders) {
                if (!take("house", "key", "owner", "beat", "hands", "reach", "day", "mood")) {
                    throw fault();
                }
                return words -> words.tell(word, 0);
            }
            if (!take("day", "done", "latest", "drill", "notes", "music", "owner")) {
                throw fault();
            }
            int place = word.equals("music") ? number(0, 15) : word.equals("owner") ? number(0, 7) : 0;
            return words -> words.tell(word, place);
        }
    }

    private static Tree join(Tree left, String op, Tree right) {
        return words -> {
            long one = left.ask(words);
            long other = right.ask(words);
            if (other == 0 && (op.equals("/") || op.equals("%"))) {
                throw new Broken();
            }
            long value = switch (op) {
                case "+" -> one + other;
                case "-" -> one - other;
                case "*" -> one * other;
                case "/" -> one / other;
                default -> one % other;
            };
            if (Math.abs(value) > 1000000000L) {
                throw new Broken();
            }
            return value;
        };
    }

    private List<Clause> readTape(boolean orders) {
        byte[] text = tape;
        tape = new byte[0];
        try {
            List<Clause> clauses = new Reading(text, orders).all();
            fault = -1;
            return clauses;
        } catch (Fault found) {
            fault = found.place;
            throw new Refused(-6);
        }
    }

    // ---- changes

    private int change(int kind, int a, int b) {
        State was = now.copy();
        int told = changed(kind, a, b);
        before.add(was);
        kinds.add(kind);
        return told;
    }

    private void keepLatest() {
        while (before.size() > 16) {
            before.remove(0);
            kinds.remove(0);
        }
    }

    private int changed(int kind, int a, int b) {
        if (kind == 0) {
            refuseIf(a < 0 || a > 7 || b < 0 || b > 15, -1);
            now.music[b] ^= 1 << a;
            return now.music[b];
        }
        if (kind == 1) {
            refuseIf(a < 0 || a > 7, -1);
            refuseIf(b < -1 || b >= now.houses.size(), -2);
            refuseIf(now.owners[a] == b, -3);
            int was = now.owners[a];
            now.owners[a] = b;
            return was < 0 ? 6 : was;
        }
        if (kind == 2) {
            refuseIf(a < -7 || a > 7 || a == 0, -1);
            refuseIf(shifted(now.music, a) == null, -3);
            now.music = shifted(now.music, a);
            return now.notes();
        }
        refuseIf(now.terms[0] == 999, -3);
        return ++now.terms[0];
    }

    private static void refuseIf(boolean so, int by) {
        if (so) {
            throw new Refused(by);
        }
    }

    private void noUndo() {
        before.clear();
        kinds.clear();
    }

    private int runOrders() {
        stopped = -1;
        List<Clause> clauses = readTape(true);
        State was = now.copy();
        List<State> beforeWas = new ArrayList<>(before);
        List<Integer> kindsWas = new ArrayList<>(kinds);
        int[] told = {0, -1};
        Words words = (word, place) -> switch (word) {
            case "day" -> now.terms[0];
            case "done" -> told[0];
            case "latest" -> told[1];
            case "drill" -> drillOf(now);
            case "notes" -> now.notes();
            case "music" -> now.music[place];
            default -> now.owners[place];
        };
        for (int i = 0; i < clauses.size(); i++) {
            Clause clause = clauses.get(i);
            for (int time = 0; time < clause.times; time++) {
                if (!clause.so(words)) {
                    continue;
                }
                try {
                    int a = clause.first == null ? 0 : (int) clause.first.ask(words);
                    int b = clause.second == null ? 0 : (int) clause.second.ask(words);
                    int answer = change(List.of("note", "give", "shift", "pass").indexOf(clause.verb), a, b);
                    told[1] = clause.verb.equals("shift") ? answer : told[1];
                    told[0]++;
                } catch (Broken | Refused no) {
                    now = was;
                    noUndo();
                    before.addAll(beforeWas);
                    kinds.addAll(kindsWas);
                    stopped = i;
                    throw new Refused(-3);
                }
            }
        }
        keepLatest();
        return told[0];
    }

    // ---- debts

    private int[][] debts() {
        int[][] debts = new int[6][6];
        for (int beat = 0; beat < 16; beat++) {
            Ways ways = ways(now, beat);
            if (ways.count == 0) {
                return null;
            }
            for (int i = 0; i < ways.keys.length; i++) {
                int owner = now.owners[ways.keys[i]];
                if (owner >= 0 && owner != ways.first[i]) {
                    debts[ways.first[i]][owner]++;
                }
            }
        }
        return debts;
    }

    private int settle() {
        int[][] debts = debts();
        if (debts == null) {
            return -1;
        }
        List<Integer> uneven = new ArrayList<>();
        for (int house = 0; house < 6; house++) {
            int balance = 0;
            for (int other = 0; other < 6; other++) {
                balance += debts[other][house] - debts[house][other];
            }
            if (balance != 0) {
                uneven.add(balance);
            }
        }
        return uneven.size() - mostHeaps(uneven, 0, new ArrayList<>());
    }

    /** All ways to put them on heaps; a heap is kept as its sum. */
    private static int mostHeaps(List<Integer> uneven, int i, List<Integer> heaps) {
        if (i == uneven.size()) {
            for (int heap : heaps) {
                if (heap != 0) {
                    return -100;
                }
            }
            return heaps.size();
        }
        int most = -100;
        for (int h = 0; h < heaps.size(); h++) {
            heaps.set(h, heaps.get(h) + uneven.get(i));
            most = Math.max(most, mostHeaps(uneven, i + 1, heaps));
            heaps.set(h, heaps.get(h) - uneven.get(i));
        }
        heaps.add(uneven.get(i));
        most = Math.max(most, mostHeaps(uneven, i + 1, heaps));
        heaps.remove(heaps.size() - 1);
        return most;
    }

    // ---- the face

    static final List<String> TOLD = List.of("house", "terms", "row", "law", "orders", "force", "note", "give", "shift",
        "pass", "undo", "motif", "evenings", "image", "back");

    long call(String name, int... a) {
        try {
            long answer = answer(name, a);
            if (TOLD.contains(name)) {
                status = 0;
            }
            return answer;
        } catch (Refused refused) {
            status = refused.by;
            refusals[List.of(-1, -2, -3, -5, -6).indexOf(refused.by)]++;
            return refused.by;
        }
    }

    private long answer(String name, int... a) {
        switch (name) {
            case "house", "terms", "force", "motif", "image", "back", "undo", "row", "law":
                return stateAnswer(name, a);
            case "orders":
                return runOrders();
            case "note", "give", "shift", "pass":
                int told = change(List.of("note", "give", "shift", "pass").indexOf(name), a.length > 0 ? a[0] : 0,
                    a.length > 1 ? a[1] : 0);
                keepLatest();
                return told;
            case "drill", "least", "who", "ways", "might", "cover", "run", "best":
                return playAnswer(name, a);
            default:
                return otherAnswer(name, a);
        }
    }

    private long stateAnswer(String name, int... a) {
        switch (name) {
            case "house":
                refuseIf(a[0] < 1 || a[0] > 8 || a[1] < 0 || a[1] > 7, -1);
                refuseIf(now.houses.size() == 6, -5);
                now.houses.add(new int[] {a[0], a[1]});
                noUndo();
                return now.houses.size() - 1;
            case "terms":
                refuseIf(a[0] < 0 || a[0] > 2 || a[1] < 0, -1);
                refuseIf(a[1] > new int[] {999, 10, 9}[a[0]], -1);
                int term = now.terms[a[0]];
                now.terms[a[0]] = a[1];
                noUndo();
                return term;
            case "force":
                refuseIf(a[0] < -1 || a[0] >= now.laws.size(), -2);
                int force = now.force;
                now.force = a[0];
                return force;
            case "motif":
                refuseIf(a[0] < 0 || a[0] > 255, -1);
                refuseIf(now.motif.size() == 6, -5);
                now.motif.add(a[0]);
                return now.motif.size();
            case "image":
                refuseIf(a[0] < 0 || a[0] > 1, -1);
                images[a[0]] = now.copy();
                return 0;
            case "back":
                refuseIf(a[0] < 0 || a[0] > 1, -1);
                refuseIf(images[a[0]] == null, -2);
                now = images[a[0]].copy();
                noUndo();
                return 0;
            case "undo":
                refuseIf(before.isEmpty(), -3);
                State was = before.remove(before.size() - 1);
                now.music = was.music;
                now.owners = was.owners;
                now.terms = was.terms;
                return kinds.remove(kinds.size() - 1);
            case "row":
                return row();
            default:
                if (now.laws.size() == 6) {
                    tape = new byte[0];
                    throw new Refused(-5);
                }
                now.laws.add(readTape(false));
                return now.laws.size() - 1;
        }
    }

    private int row() {
        refuseIf(tape.length == 0, -6);
        creaks = 0;
        int told = 0;
        for (int i = 0; i < tape.length; i += 2) {
            if (i + 1 == tape.length || tape[i] < 0 || tape[i] > 15) {
                creaks++;
            } else {
                told++;
                now.music[tape[i]] = tape[i + 1] & 255;
            }
        }
        tape = new byte[0];
        noUndo();
        return told;
    }

    private static boolean in(int number, int high) {
        return number >= 0 && number < high;
    }

    private long playAnswer(String name, int... a) {
        int all = (1 << now.houses.size()) - 1;
        switch (name) {
            case "drill":
                return drillOf(now);
            case "least":
                return a[0] == -1 ? leastOf(now) : in(a[0], 16) ? ways(now, a[0]).least : -1;
            case "ways":
                return in(a[0], 16) ? ways(now, a[0]).count : -1;
            case "might":
                return in(a[0], 16) && in(a[1], 8) ? ways(now, a[0]).might[a[1]] : -1;
            case "who":
                if (!in(a[0], 16) || !in(a[1], 8)) {
                    return -1;
                }
                Ways ways = ways(now, a[0]);
                for (int i = 0; i < ways.keys.length; i++) {
                    if (ways.keys[i] == a[1] && ways.count > 0) {
                        return ways.first[i];
                    }
                }
                return -1;
            case "cover":
                for (int many = 0; many <= now.houses.size() && in(a[0], 2); many++) {
                    for (int houses = 0; houses <= all; houses++) {
                        if (Integer.bitCount(houses) == many && runOf(houses)[0] == 16) {
                            return a[0] == 0 ? many : houses;
                        }
                    }
                }
                return -1;
            case "run":
                return a[0] < 0 || a[0] > all || !in(a[1], 2) ? -1 : runOf(a[0])[a[1]];
            default:
                return in(a[0], 2) ? bestOf()[a[0]] : -100;
        }
    }

    private int[] runOf(int houses) {
        boolean[] had = new boolean[17];
        for (int beat = 0; beat < 16; beat++) {
            had[beat] = new Ways(now, beat, houses).count > 0;
        }
        int[] best = {0, -1};
        for (int from = 0; from < 16; from++) {
            int to = from;
            while (had[to]) {
                to++;
            }
            if (to - from > best[0]) {
                best = new int[] {to - from, from};
            }
        }
        return best;
    }

    private int[] bestOf() {
        int[] best = {-100, -100};
        for (int n = 7; n >= -7; n--) {
            State paper = now.copy();
            paper.music = shifted(now.music, n);
            int least = paper.music == null ? -1 : leastOf(paper);
            if (least >= 0 && (best[1] < 0 || least <= best[1])) {
                best = new int[] {n, least};
            }
        }
        return best;
    }

    private long otherAnswer(String name, int... a) {
        boolean hasHouse = a.length > 0 && in(a[0], now.houses.size());
        switch (name) {
            case "of":
                if (!hasHouse || !in(a[1], 3)) {
                    return -1;
                }
                int keys = 0;
                for (int key = 0; key < 8; key++) {
                    keys += now.owners[key] == a[0] ? 1 << key : 0;
                }
                return a[1] == 2 ? keys : now.houses.get(a[0])[a[1]];
            case "owner":
                return in(a[0], 8) ? now.owners[a[0]] : -1;
            case "music":
                return in(a[0], 16) ? now.music[a[0]] : -1;
            case "asks":
                if (!hasHouse || !in(a[1], 8) || !in(a[2], 16) || !in(a[3], 2)) {
                    return -1;
                }
                return a[3] == 0 ? minded(now, a[0], a[1], a[2]) : can(now, a[0], a[1], a[2]) ? 1 : 0;
            case "feed":
                if (tape.length + 20 > 400) {
                    return -1;
                }
                java.nio.ByteBuffer bytes = java.nio.ByteBuffer.allocate(tape.length + 20).put(tape);
                for (int four : a) {
                    bytes.putInt(four);
                }
                tape = bytes.array();
                return tape.length;
            case "end":
                if (a[0] < 0 || a[0] > tape.length) {
                    return -1;
                }
                tape = Arrays.copyOf(tape, a[0]);
                return a[0];
            case "creaks":
                return creaks;
            case "fault":
                return fault;
            case "stopped":
                return stopped;
            case "status":
                return status;
            case "forget":
                int had = now.motif.size();
                now.motif.clear();
                return had;
            case "find":
                return find(a[0]);
            case "owes":
                int[][] debts = hasHouse && in(a[1], now.houses.size()) && a[0] != a[1] ? debts() : null;
                return debts == null ? -1 : debts[a[0]][a[1]];
            case "settled":
                return settle();
            case "few":
                return few(a[0], a[1]);
            case "compare":
                if (a[0] < -1 || a[0] >= now.laws.size()) {
                    return -1;
                }
                State paper = now.copy();
                paper.force = a[0];
                return leastOf(paper);
            case "evenings":
                return evenings(a[0], a[1]);
            case "drawn":
                if (evening == null || !in(a[1], 2) || !in(a[0], a[1] == 0 ? 16 : 8)) {
                    return -1;
                }
                return a[1] == 0 ? evening.music[a[0]] : evening.owners[a[0]];
            default:
                return count(a[0]);
        }
    }

    private int find(int i) {
        if (now.motif.isEmpty() || i < -1) {
            return -1;
        }
        int[] motif = now.motif.stream().mapToInt(set -> set).toArray();
        boolean silent = Arrays.stream(motif).sum() == 0;
        List<Integer> found = new ArrayList<>();
        for (int beat = 0; beat <= 16 - motif.length; beat++) {
            for (int n = -7; n <= 7; n++) {
                int[] other = shifted(motif, n);
                if ((!silent || n == 0) && Arrays.equals(other, Arrays.copyOfRange(now.music, beat, beat + motif.length))) {
                    found.add(100 * beat + n + 7);
                }
            }
        }
        return i == -1 ? found.size() : i < found.size() ? found.get(i) : -1;
    }

    private long few(int k, int n) {
        if (k < 1 || k > 20 || n < 0 || n > 99) {
            return -1;
        }
        long[] row = {1000000000000L};
        for (int i = 0; i < n; i++) {
            long[] next = new long[row.length + 1];
            for (int j = 0; j < row.length; j++) {
                next[j] += row[j] * (10 - now.terms[1]) / 10;
                next[j + 1] += row[j] * now.terms[1] / 10;
            }
            row = next;
        }
        return Arrays.stream(Arrays.copyOf(row, k)).sum();
    }

    private int evenings(int seed, int n) {
        refuseIf(seed < 0 || seed > 1000000 || n < 1 || n > 60, -1);
        refuseIf(now.houses.isEmpty(), -3);
        evening = now.copy();
        int full = 0;
        long s = seed;
        for (int i = 0; i < n && evening.terms[0] < 999; i++) {
            int[] drawn = new int[4];
            for (int j = 0; j < 4; j++) {
                s = (s * 1103 + 12345) % 1000003;
                drawn[j] = (int) (s % new int[] {16, 8, now.houses.size(), 3}[j]);
            }
            if (drawn[3] == 0) {
                evening.music[drawn[0]] ^= 1 << drawn[1];
            }
            if (drawn[3] == 1) {
                evening.owners[drawn[1]] = drawn[2];
            }
            evening.terms[0]++;
            full += drillOf(evening) == 16 ? 1 : 0;
        }
        return full;
    }

    private int count(int what) {
        if (what >= 6 && what <= 10) {
            return refusals[what - 6];
        }
        return switch (what) {
            case 0 -> now.houses.size();
            case 1 -> now.notes();
            case 2 -> now.motif.size();
            case 3 -> now.laws.size();
            case 4 -> before.size();
            case 5 -> tape.length;
            case 11 -> now.force;
            case 12, 13, 14 -> now.terms[what - 12];
            default -> -1;
        };
    }
}
