/** What the tests share: counts answers that are not due, and puts texts on the tape. */
final class Check {
    private int wrong;
    private int asked;

    void due(int promise, String call, long got, long want) {
        due("promise " + promise, call, got, want);
    }

    /** The same for a sentence that is not a promise's own, such as one of the Terms. */
    void due(String sentence, String call, long got, long want) {
        asked++;
        if (got != want) {
            wrong++;
            System.out.println(sentence + ": " + call + " answered " + got + ", due is " + want);
        }
    }

    /** Ends the test: exit code 1 if an answer was wrong. */
    void close(String name) {
        System.out.println(name + ": " + asked + " answers, " + wrong + " of them wrong");
        if (wrong != 0) {
            System.exit(1);
        }
    }

    static void tape(KeyHouses x, String text) {
        byte[] bytes = new byte[text.length()];
        for (int i = 0; i < bytes.length; i++) {
            bytes[i] = (byte) text.charAt(i);
        }
        tape(x, bytes);
    }

    /** Puts these bytes behind the tape, which takes them by twenties. */
    static void tape(KeyHouses x, byte[] bytes) {
        int length = x.count(5) + bytes.length;
        for (int at = 0; at < bytes.length; at += 20) {
            int[] five = new int[5];
            for (int i = 0; i < 20; i++) {
                int sign = at + i < bytes.length ? bytes[at + i] & 255 : 0;
                five[i / 4] = five[i / 4] << 8 | sign;
            }
            if (x.feed(five[0], five[1], five[2], five[3], five[4]) < 0) {
                throw new IllegalStateException("the tape has no room");
            }
        }
        if (x.end(length) != length) {
            throw new IllegalStateException("the tape is not as long as it should be");
        }
    }

    /** Sets the music of one beat. */
    static void set(KeyHouses x, int beat, int keys) {
        x.end(0);
        tape(x, new byte[] {(byte) beat, (byte) keys});
        if (x.row() != 1) {
            throw new IllegalStateException("the row was not told");
        }
    }

    /** A street of so many houses with these hands and this reach, to all of whom all keys are lent. */
    static KeyHouses lending(int houses, int hands, int reach) {
        KeyHouses x = new KeyHouses();
        for (int i = 0; i < houses; i++) {
            x.house(hands, reach);
        }
        x.force(law(x, "lends"));
        return x;
    }

    static int law(KeyHouses x, String text) {
        x.end(0);
        tape(x, text);
        return x.law();
    }

    static int orders(KeyHouses x, String text) {
        x.end(0);
        tape(x, text);
        return x.orders();
    }

    static String repeat(String text, int times) {
        StringBuilder all = new StringBuilder();
        for (int i = 0; i < times; i++) {
            all.append(text);
        }
        return all.toString();
    }
}
