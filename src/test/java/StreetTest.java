/** Promises 1 to 7 and 16 to 21: the street, its terms, and changes made and undone. */
public final class StreetTest {
    private static final Check check = new Check();

    public static void main(String[] args) {
        newObject();
        houses();
        owners();
        asked();
        terms();
        force();
        notes();
        gives();
        shifts();
        days();
        undone();
        undoneNoMore();
        check.close("StreetTest");
    }

    private static void newObject() {
        KeyHouses x = new KeyHouses();
        for (int what = 0; what <= 10; what++) {
            check.due(1, "count(" + what + ")", x.count(what), 0);
        }
        check.due(1, "count(11)", x.count(11), -1);
        check.due(1, "count(12)", x.count(12), 0);
        check.due(1, "count(13)", x.count(13), 1);
        check.due(1, "count(14)", x.count(14), 0);
        for (int key = 0; key < 8; key++) {
            check.due(1, "owner", x.owner(key), -1);
        }
        for (int beat = 0; beat < 16; beat++) {
            check.due(1, "music", x.music(beat), 0);
        }
        check.due(1, "status()", x.status(), 0);
        check.due(1, "creaks()", x.creaks(), 0);
        check.due(1, "fault()", x.fault(), -1);
        check.due(1, "stopped()", x.stopped(), -1);
        check.due(1, "drawn(0, 0)", x.drawn(0, 0), -1);
        check.due(1, "of(0, 0)", x.of(0, 0), -1);
        check.due(1, "back(0)", x.back(0), -2);
    }

    private static void houses() {
        KeyHouses x = new KeyHouses();
        check.due(2, "house(1, 0)", x.house(1, 0), 0);
        check.due(2, "house(8, 7)", x.house(8, 7), 1);
        check.due(2, "house(0, 3)", x.house(0, 3), -1);
        check.due(2, "house(9, 3)", x.house(9, 3), -1);
        check.due(2, "house(3, -1)", x.house(3, -1), -1);
        check.due(2, "house(3, 8)", x.house(3, 8), -1);
        check.due(2, "house(min, 1)", x.house(Integer.MIN_VALUE, 1), -1);
        for (int i = 2; i < 6; i++) {
            check.due(2, "house", x.house(i, i), i);
        }
        check.due(2, "a seventh", x.house(1, 1), -5);
        check.due(2, "a seventh that can't be", x.house(0, 1), -1);
        check.due(2, "count(0)", x.count(0), 6);
        check.due(3, "of(1, 0)", x.of(1, 0), 8);
        check.due(3, "of(1, 1)", x.of(1, 1), 7);
        check.due(3, "of(5, 0)", x.of(5, 0), 5);
        check.due(3, "of(1, 2)", x.of(1, 2), 0);
        x.give(0, 1);
        x.give(7, 1);
        x.give(3, 2);
        check.due(3, "of(1, 2)", x.of(1, 2), 129);
        check.due(3, "of(2, 2)", x.of(2, 2), 8);
        check.due(3, "of(1, 3)", x.of(1, 3), -1);
        check.due(3, "of(1, -1)", x.of(1, -1), -1);
        check.due(3, "of(6, 0)", x.of(6, 0), -1);
        check.due(3, "of(-1, 2)", x.of(-1, 2), -1);
    }

    private static void owners() {
        KeyHouses x = new KeyHouses();
        x.house(2, 2);
        x.give(4, 0);
        check.due(4, "owner(4)", x.owner(4), 0);
        check.due(4, "owner(3)", x.owner(3), -1);
        check.due(4, "owner(-1)", x.owner(-1), -1);
        check.due(4, "owner(8)", x.owner(8), -1);
        x.note(7, 15);
        check.due(5, "music(15)", x.music(15), 128);
        check.due(5, "music(14)", x.music(14), 0);
        check.due(5, "music(16)", x.music(16), -1);
        check.due(5, "music(-1)", x.music(-1), -1);
    }

    private static void asked() {
        KeyHouses x = new KeyHouses();
        x.house(3, 5);
        x.house(2, 6);
        x.give(4, 1);
        check.due(6, "without a law", x.asks(0, 4, 0, 0), 1);
        check.due(6, "not the owner", x.asks(0, 4, 0, 1), 0);
        check.due(6, "the owner", x.asks(1, 4, 0, 1), 1);
        Check.law(x, "minds 10 * house + key; minds 200 if beat = 1; minds 0 - 3 if beat = 2; minds 7 / [beat - 3] if beat = 3;"
            + "lends if key = 4 and owner = 1; bars if beat = 15 or owner = 0 - 1 and key = 2");
        check.due(6, "a law not in force", x.asks(1, 5, 0, 0), 1);
        x.force(0);
        check.due(6, "the sum", x.asks(1, 5, 0, 0), 15);
        check.due(6, "above 99", x.asks(1, 5, 1, 0), 99);
        check.due(6, "below 0", x.asks(1, 5, 2, 0), 0);
        check.due(6, "a broken sum", x.asks(1, 5, 3, 0), 15);
        check.due(6, "lent", x.asks(0, 4, 0, 1), 1);
        check.due(6, "not lent", x.asks(0, 5, 0, 1), 0);
        check.due(6, "barred", x.asks(1, 4, 15, 1), 0);
        check.due(6, "what 2", x.asks(1, 4, 15, 2), -1);
        check.due(6, "what -1", x.asks(1, 4, 15, -1), -1);
        check.due(6, "house 2", x.asks(2, 4, 15, 0), -1);
        check.due(6, "house -1", x.asks(-1, 4, 15, 0), -1);
        check.due(6, "key 8", x.asks(1, 8, 15, 0), -1);
        check.due(6, "beat 16", x.asks(1, 4, 16, 0), -1);
        check.due(6, "beat -1", x.asks(1, 4, -1, 0), -1);
        Check.law(x, "minds hands * 10 + reach if day < 1; minds day + mood if day > 0");
        x.force(1);
        check.due(6, "hands, reach", x.asks(0, 0, 0, 0), 35);
        x.terms(0, 9);
        x.terms(2, 8);
        check.due(6, "day, mood", x.asks(0, 0, 0, 0), 17);
    }

    private static void terms() {
        KeyHouses x = new KeyHouses();
        check.due(7, "terms(0, 999)", x.terms(0, 999), 0);
        check.due(7, "terms(0, 1000)", x.terms(0, 1000), -1);
        check.due(7, "terms(0, 0)", x.terms(0, 0), 999);
        check.due(7, "terms(1, 10)", x.terms(1, 10), 1);
        check.due(7, "terms(1, 11)", x.terms(1, 11), -1);
        check.due(7, "terms(1, 0)", x.terms(1, 0), 10);
        check.due(7, "terms(2, 9)", x.terms(2, 9), 0);
        check.due(7, "terms(2, 10)", x.terms(2, 10), -1);
        check.due(7, "terms(2, -1)", x.terms(2, -1), -1);
        check.due(7, "terms(3, 0)", x.terms(3, 0), -1);
        check.due(7, "terms(-1, 0)", x.terms(-1, 0), -1);
        check.due(7, "count(14)", x.count(14), 9);
    }

    private static void force() {
        KeyHouses x = new KeyHouses();
        check.due(16, "force(0), no law", x.force(0), -2);
        Check.law(x, "minds 2");
        Check.law(x, "minds 3");
        check.due(16, "force(1)", x.force(1), -1);
        check.due(16, "status()", x.status(), 0);
        check.due(16, "force(0)", x.force(0), 1);
        check.due(16, "force(2)", x.force(2), -2);
        check.due(16, "force(-2)", x.force(-2), -2);
        check.due(16, "count(11)", x.count(11), 0);
        check.due(16, "force(-1)", x.force(-1), 0);
        check.due(16, "count(11)", x.count(11), -1);
    }

    private static void notes() {
        KeyHouses x = new KeyHouses();
        check.due(17, "note(7, 15)", x.note(7, 15), 128);
        check.due(17, "note(0, 15)", x.note(0, 15), 129);
        check.due(17, "note(7, 15) again", x.note(7, 15), 1);
        check.due(17, "note(8, 0)", x.note(8, 0), -1);
        check.due(17, "note(-1, 0)", x.note(-1, 0), -1);
        check.due(17, "note(0, 16)", x.note(0, 16), -1);
        check.due(17, "note(0, -1)", x.note(0, -1), -1);
        check.due(17, "count(1)", x.count(1), 1);
    }

    private static void gives() {
        KeyHouses x = new KeyHouses();
        check.due(18, "no houses", x.give(0, 0), -2);
        check.due(18, "no key, no house", x.give(-1, 0), -1);
        x.house(1, 1);
        x.house(1, 1);
        check.due(18, "give(0, 1)", x.give(0, 1), 6);
        check.due(18, "give(0, 1) again", x.give(0, 1), -3);
        check.due(18, "give(0, 0)", x.give(0, 0), 1);
        check.due(18, "give(0, -1)", x.give(0, -1), 0);
        check.due(18, "give(0, -1) again", x.give(0, -1), -3);
        check.due(18, "give(0, -2)", x.give(0, -2), -2);
        check.due(18, "give(0, 2)", x.give(0, 2), -2);
        check.due(18, "give(8, 9)", x.give(8, 9), -1);
    }

    private static void shifts() {
        KeyHouses x = new KeyHouses();
        check.due(19, "without music", x.shift(7), 0);
        x.note(7, 3);
        check.due(19, "shift(-7)", x.shift(-7), 1);
        check.due(19, "music(3)", x.music(3), 1);
        check.due(19, "shift(7)", x.shift(7), 1);
        check.due(19, "shift(1)", x.shift(1), -3);
        x.note(7, 3);
        x.note(0, 3);
        x.note(2, 4);
        check.due(19, "shift(-1)", x.shift(-1), -3);
        check.due(19, "shift(6)", x.shift(6), -3);
        check.due(19, "shift(5)", x.shift(5), 2);
        check.due(19, "music(3)", x.music(3), 32);
        check.due(19, "music(4)", x.music(4), 128);
        check.due(19, "shift(-5)", x.shift(-5), 2);
        check.due(19, "music(4)", x.music(4), 4);
        check.due(19, "shift(0)", x.shift(0), -1);
        check.due(19, "shift(8)", x.shift(8), -1);
        check.due(19, "shift(-8)", x.shift(-8), -1);
        check.due(19, "shift(min)", x.shift(Integer.MIN_VALUE), -1);
    }

    private static void days() {
        KeyHouses x = new KeyHouses();
        check.due(20, "pass()", x.pass(), 1);
        x.terms(0, 998);
        check.due(20, "pass()", x.pass(), 999);
        check.due(20, "pass() at the last", x.pass(), -3);
        check.due(20, "count(12)", x.count(12), 999);
    }

    private static void undone() {
        KeyHouses x = new KeyHouses();
        check.due(21, "none", x.undo(), -3);
        x.house(1, 1);
        x.note(1, 1);
        x.give(2, 0);
        x.give(2, -1);
        x.shift(6);
        x.pass();
        check.due(21, "count(4)", x.count(4), 5);
        check.due(21, "a day", x.undo(), 3);
        check.due(21, "the day", x.count(12), 0);
        check.due(21, "a shift", x.undo(), 2);
        check.due(21, "the music", x.music(1), 2);
        check.due(21, "a key given", x.undo(), 1);
        check.due(21, "its owner", x.owner(2), 0);
        check.due(21, "a key given", x.undo(), 1);
        check.due(21, "its owner", x.owner(2), -1);
        check.due(21, "a note", x.undo(), 0);
        check.due(21, "the music", x.music(1), 0);
        check.due(21, "none", x.undo(), -3);
        for (int i = 0; i < 20; i++) {
            x.note(i % 8, i / 8);
        }
        check.due(21, "16 are kept", x.count(4), 16);
        for (int i = 0; i < 16; i++) {
            check.due(21, "undo()", x.undo(), 0);
        }
        check.due(21, "the 17th", x.undo(), -3);
        check.due(21, "music(0)", x.music(0), 15);
    }

    private static void undoneNoMore() {
        KeyHouses x = new KeyHouses();
        x.note(0, 0);
        x.house(0, 0);
        x.terms(5, 0);
        x.end(0);
        x.row();
        Check.law(x, "lends");
        x.force(0);
        x.motif(1);
        x.forget();
        x.image(0);
        check.due(21, "still to be undone", x.count(4), 1);
        x.house(1, 1);
        check.due(21, "behind house()", x.undo(), -3);
        x.note(0, 0);
        x.terms(1, 1);
        check.due(21, "behind terms()", x.undo(), -3);
        x.note(0, 0);
        Check.tape(x, new byte[] {16});
        x.row();
        check.due(21, "behind row()", x.undo(), -3);
        x.note(0, 0);
        x.back(0);
        check.due(21, "behind back()", x.undo(), -3);
    }
}
