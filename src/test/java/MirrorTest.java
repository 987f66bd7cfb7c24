import java.lang.reflect.Method;
import java.util.ArrayList;
import java.util.List;
import java.util.Map;
import java.util.Random;
import java.util.TreeMap;

/** All promises: runs of drawn calls on the class and on the Mirror, which must answer alike. */
public final class MirrorTest {
    private static final int RUNS = 1000;
    /** What an object answers behind its 512th call is free, and a step makes up to some forty. */
    private static final int CALLS = 512 - 60;
    /** Laws by which much can be had, so that debts, covers and the like are often told. */
    private static final String[] LENIENT = {
        "lends", "lends; minds [key * 7 + house * 5 + beat] % 9", "lends if house > owner; minds 3 * [key + house] % 5",
        "lends if key % 2 = house % 2 or owner < 0; minds 4 if owner = house; minds 2 if house % 2 = 0 and beat < 2",
        "lends; minds 5; minds 0 if [house + key + day] % 3 = 0; bars if house = beat"};
    private static final Map<String, Method> FACE = new TreeMap<>();
    private static final Map<String, Integer> ASKED = new TreeMap<>();
    private static final Map<String, Integer> OTHER_THAN_NONE = new TreeMap<>();
    private static int wrong;

    private final Random random;
    private final KeyHouses x = new KeyHouses();
    private final Mirror mirror = new Mirror();
    private final List<String> log = new ArrayList<>();
    private final int density;
    private int calls;
    private boolean differs;

    private MirrorTest(long seed) {
        random = new Random(seed);
        density = random.nextInt(4);
    }

    public static void main(String[] args) throws Exception {
        for (Method method : KeyHouses.class.getDeclaredMethods()) {
            if (java.lang.reflect.Modifier.isPublic(method.getModifiers())) {
                FACE.put(method.getName(), method);
            }
        }
        int runs = args.length > 0 ? Integer.parseInt(args[0]) : RUNS;
        long from = args.length > 1 ? Long.parseLong(args[1]) : 1;
        for (long seed = from; seed < from + runs && wrong < 5; seed++) {
            new MirrorTest(seed).play(seed);
        }
        for (String name : FACE.keySet()) {
            if (OTHER_THAN_NONE.getOrDefault(name, 0) == 0) {
                System.out.println(name + " was never asked so that it could tell");
                wrong++;
            }
        }
        System.out.println("MirrorTest: " + ASKED.values().stream().mapToInt(n -> n).sum() + " calls, wrong runs: " + wrong);
        if (args.length > 2) {
            System.out.println(ASKED + "\n" + OTHER_THAN_NONE);
        }
        System.exit(wrong == 0 ? 0 : 1);
    }

    private void play(long seed) throws Exception {
        int houses = random.nextInt(7);
        for (int i = 0; i < houses; i++) {
            call("house", 1 + random.nextInt(random.nextBoolean() ? 3 : 8), random.nextInt(8));
        }
        if (random.nextInt(4) > 0) {
            for (int key = 0; key < 8; key++) {
                call("give", key, random.nextInt(6));
            }
        }
        if (random.nextInt(3) > 0) {
            tape(LENIENT[random.nextInt(LENIENT.length)].getBytes(java.nio.charset.StandardCharsets.ISO_8859_1));
            call("law");
            call("force", 0);
        }
        while (calls < CALLS && !differs) {
            step();
        }
        if (differs) {
            wrong++;
            System.out.println("run " + seed + " differs:");
            log.stream().skip(Math.max(0, log.size() - 40)).forEach(System.out::println);
        }
    }

    private long call(String name, int... args) throws Exception {
        Object[] boxed = new Object[args.length];
        for (int i = 0; i < args.length; i++) {
            boxed[i] = args[i];
        }
        long got = ((Number) FACE.get(name).invoke(x, boxed)).longValue();
        long want = mirror.call(name, args);
        ASKED.merge(name, 1, Integer::sum);
        if (got != -1) {
            OTHER_THAN_NONE.merge(name, 1, Integer::sum);
        }
        calls++;
        log.add("  " + name + java.util.Arrays.toString(args) + " = " + got + (got == want ? "" : ", due is " + want));
        differs |= got != want;
        return got;
    }

    private int near(int high) {
        return random.nextInt(12) == 0 ? random.nextInt(high + 6) - 3 : random.nextInt(high);
    }

    private int any() {
        int[] odd = {Integer.MIN_VALUE, Integer.MAX_VALUE, -1, 0, 1, 1 << 16, 1 << 31 | 5, 255, 256};
        return odd[random.nextInt(odd.length)];
    }

    private void step() throws Exception {
        int die = random.nextInt(100);
        if (die < 14) {
            call("note", near(8), near(density == 0 ? 16 : 4));
        } else if (die < 18) {
            call("give", near(8), near(6));
        } else if (die < 20) {
            call("shift", random.nextInt(5) - 2);
        } else if (die < 22) {
            call("pass");
        } else if (die < 26) {
            call("undo");
        } else if (die < 31) {
            text(false);
        } else if (die < 39) {
            text(true);
        } else if (die < 41) {
            row();
        } else if (die < 43) {
            call("force", near(4) - 1);
        } else if (die < 46) {
            motif();
        } else if (die < 48) {
            call(random.nextBoolean() ? "image" : "back", near(2));
        } else if (die < 49) {
            call("terms", near(3), near(random.nextBoolean() ? 10 : 1000));
        } else if (die < 50) {
            wild();
        } else {
            ask();
        }
    }

    private void wild() throws Exception {
        if (random.nextInt(3) == 0) {
            call("house", near(9), near(8));
            return;
        }
        List<String> names = new ArrayList<>(FACE.keySet());
        Method method = FACE.get(names.get(random.nextInt(names.size())));
        int[] args = new int[method.getParameterCount()];
        for (int i = 0; i < args.length; i++) {
            args[i] = random.nextInt(3) == 0 ? random.nextInt(16) : any();
        }
        call(method.getName(), args);
    }

    private void ask() throws Exception {
        int beat = near(random.nextBoolean() ? 16 : 4);
        switch (random.nextInt(26)) {
            case 0 -> call("of", near(6), near(3));
            case 1 -> call("owner", near(8));
            case 2 -> call("music", beat);
            case 3, 4 -> call("asks", near(4), near(8), near(16), near(2));
            case 5 -> call("creaks");
            case 6 -> call("fault");
            case 7 -> call("stopped");
            case 8 -> call("drill");
            case 9 -> call("least", beat);
            case 10 -> call("least", -1);
            case 11, 12 -> call("who", beat, near(8));
            case 13 -> call("ways", beat);
            case 14 -> call("might", beat, near(8));
            case 15 -> call("cover", near(2));
            case 16 -> call("run", near(1 << Math.max(0, (int) mirror.call("count", 0))), near(2));
            case 17 -> call("best", near(2));
            case 18 -> call("find", near(20) - 2);
            case 19 -> call("owes", near(4), near(4));
            case 20 -> call("settled");
            case 21 -> call("few", near(21), near(100));
            case 22 -> call("compare", near(4) - 1);
            case 23 -> evenings();
            case 24 -> call("drawn", near(16), near(2));
            default -> {
                call("count", near(16));
                call("status");
            }
        }
    }

    private void evenings() throws Exception {
        call("evenings", random.nextInt(30) == 0 ? 1000000 : near(1000000), random.nextInt(8) == 0 ? near(61) : 1 + random.nextInt(9));
        call("drawn", random.nextInt(16), 0);
        call("drawn", random.nextInt(8), 1);
    }

    private void motif() throws Exception {
        if (random.nextInt(3) == 0) {
            call("forget");
        }
        int set = (int) mirror.call("music", random.nextInt(density == 0 ? 16 : 5));
        call("motif", random.nextInt(5) == 0 ? near(256) : random.nextBoolean() ? set : set << 1 & 255);
        call("find", -1);
    }

    private void row() throws Exception {
        byte[] bytes = new byte[random.nextInt(12)];
        for (int i = 0; i < bytes.length; i++) {
            int set = random.nextInt(256) & random.nextInt(256) & (density > 2 ? 255 : random.nextInt(256));
            bytes[i] = (byte) (i % 2 == 0 ? near(16) : set);
        }
        tape(bytes);
        call("row");
    }

    // ---- texts

    private void tape(byte[] bytes) throws Exception {
        if (random.nextInt(20) > 0) {
            call("end", 0);
        }
        int length = (int) mirror.call("count", 5) + bytes.length;
        for (int at = 0; at < bytes.length; at += 20) {
            int[] five = new int[5];
            for (int i = 0; i < 20; i++) {
                five[i / 4] = five[i / 4] << 8 | (at + i < bytes.length ? bytes[at + i] & 255 : 0);
            }
            call("feed", five);
        }
        call("end", length);
    }

    private void text(boolean orders) throws Exception {
        StringBuilder text = new StringBuilder();
        int clauses = random.nextInt(15) == 0 ? 11 + random.nextInt(3) : 1 + random.nextInt(4);
        for (int i = 0; i < clauses; i++) {
            text.append(i == 0 ? "" : ";").append(orders ? order(clauses > 9) : rule(clauses > 9));
        }
        byte[] bytes = text.toString().getBytes(java.nio.charset.StandardCharsets.ISO_8859_1);
        if (bytes.length > 400) {
            bytes = java.util.Arrays.copyOf(bytes, 400);
        }
        if (random.nextInt(6) == 0 && bytes.length > 0) {
            spoil(bytes);
        }
        tape(bytes);
        log.add("    " + new String(bytes, java.nio.charset.StandardCharsets.ISO_8859_1));
        call(orders ? "orders" : "law");
        call("fault");
        if (orders) {
            call("stopped");
            call("count", 4);
            for (int beat = 0; beat < 4; beat++) {
                call("music", beat);
            }
        } else if (random.nextInt(3) > 0) {
            call("force", random.nextBoolean() ? 0 : random.nextInt(Math.max(1, (int) mirror.call("count", 3))));
        }
        call("status");
    }

    private void spoil(byte[] bytes) {
        String signs = " ;()[]+-*/%<>=0123456789abcdefghijklmnopqrstuvwxyzAZ\u00e9\t!";
        for (int i = 0; i <= random.nextInt(3); i++) {
            bytes[random.nextInt(bytes.length)] = (byte) signs.charAt(random.nextInt(signs.length()));
        }
    }

    private String rule(boolean small) {
        String verb = switch (random.nextInt(4)) {
            case 0, 1 -> "minds " + sum(small ? 4 : 1, false);
            case 2 -> "lends";
            default -> random.nextInt(3) == 0 ? "bars" : "lends";
        };
        return random.nextInt(3) == 0 || small ? verb : verb + " if " + test(1, false);
    }

    private String order(boolean small) {
        String order = switch (random.nextInt(5)) {
            case 0, 1 -> "note " + within(7) + " at " + within(random.nextBoolean() ? 15 : 3);
            case 2 -> "give " + within(7) + " to " + (random.nextInt(4) == 0 ? "0 - 1" : within(3));
            case 3 -> "shift " + (random.nextBoolean() ? "1" : random.nextInt(3) == 0 ? sum(1, true) : "0 - 1");
            default -> "pass";
        };
        if (random.nextInt(4) == 0) {
            order += " times " + (random.nextInt(9) == 0 ? random.nextInt(23) : 1 + random.nextInt(20));
        }
        return random.nextBoolean() || small ? order : order + " if " + test(1, true);
    }

    private String within(int high) {
        return random.nextInt(4) == 0 ? sum(1, true) + (random.nextBoolean() ? "" : " % " + (high + 1))
            : random.nextInt(15) == 0 ? "" + (high + 1) : "" + random.nextInt(high + 1);
    }

    private String test(int depth, boolean orders) {
        int die = random.nextInt(depth > 3 ? 4 : 9);
        return switch (die) {
            case 0, 1, 2, 3 -> sum(depth + 1, orders) + " " + "<>=".charAt(random.nextInt(3)) + " " + sum(depth + 1, orders);
            case 4 -> "not " + test(depth + 1, orders);
            case 5 -> "(" + test(depth + 1, orders) + ")";
            case 6, 7 -> test(depth + 1, orders) + " and " + test(depth + 1, orders);
            default -> test(depth + 1, orders) + " or " + test(depth + 1, orders);
        };
    }

    private String sum(int depth, boolean orders) {
        int die = random.nextInt(depth > 3 ? 4 : 8);
        return switch (die) {
            case 0 -> "" + random.nextInt(10);
            case 1 -> "" + (random.nextInt(5) == 0 ? random.nextInt(1002) : random.nextInt(100));
            case 2, 3, 4 -> orders ? orderWord() : ruleWord();
            case 5 -> "[" + sum(depth + 1, orders) + "]";
            default -> sum(depth + 1, orders) + (random.nextBoolean() ? " " : "") + "++--**/%".charAt(random.nextInt(8)) + " " + sum(depth + 1, orders);
        };
    }

    private String ruleWord() {
        String[] words = {"house", "key", "owner", "beat", "hands", "reach", "day", "mood"};
        return words[random.nextInt(words.length)];
    }

    private String orderWord() {
        String[] words = {"day", "done", "latest", "drill", "notes", "music", "owner"};
        String word = words[random.nextInt(words.length)];
        return word.equals("music") ? "music " + near(16) : word.equals("owner") ? "owner " + near(8) : word;
    }
}
