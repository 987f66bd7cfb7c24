/** Promises 39 to 42: images, counts, what calls were refused by. */
public final class BackTest {
    private static final Check check = new Check();

    public static void main(String[] args) {
        images();
        notKept();
        counts();
        statuses();
        check.close("BackTest");
    }

    private static void images() {
        KeyHouses x = new KeyHouses();
        check.due(39, "image(-1)", x.image(-1), -1);
        check.due(39, "image(2)", x.image(2), -1);
        check.due(40, "back(-1)", x.back(-1), -1);
        check.due(40, "back(2)", x.back(2), -1);
        check.due(40, "back(0)", x.back(0), -2);
        x.house(3, 4);
        x.give(2, 0);
        x.note(2, 2);
        x.motif(9);
        Check.law(x, "minds 5");
        x.force(0);
        x.terms(0, 11);
        x.terms(1, 2);
        x.terms(2, 3);
        check.due(39, "image(0)", x.image(0), 0);
        check.due(40, "back(1)", x.back(1), -2);
        x.house(1, 1);
        x.give(2, 1);
        x.note(2, 2);
        x.forget();
        Check.law(x, "minds 6");
        x.force(1);
        x.terms(0, 12);
        x.terms(1, 3);
        x.terms(2, 4);
        x.image(1);
        check.due(40, "back(0)", x.back(0), 0);
        check.due(40, "houses", x.count(0), 1);
        check.due(40, "an owner", x.owner(2), 0);
        check.due(40, "music", x.music(2), 4);
        check.due(40, "the motif", x.count(2), 1);
        check.due(40, "found", x.find(-1), 0);
        check.due(40, "laws", x.count(3), 1);
        check.due(40, "in force", x.count(11), 0);
        check.due(40, "terms", x.count(12) * 100 + x.count(13) * 10 + x.count(14), 1123);
        check.due(40, "minded", x.asks(0, 2, 2, 0), 5);
        check.due(40, "another law in its place", Check.law(x, "minds 7"), 1);
        check.due(40, "another house in its place", x.house(8, 0), 1);
        check.due(40, "back(1)", x.back(1), 0);
        check.due(40, "minded by the law that was", x.asks(0, 2, 2, 0), 6);
        check.due(40, "the house that was", x.of(1, 0), 1);
        check.due(40, "images stay", x.back(0), 0);
        check.due(40, "minded", x.asks(0, 2, 2, 0), 5);
        check.due(40, "no such law", x.force(1), -2);
    }

    private static void notKept() {
        KeyHouses x = new KeyHouses();
        x.house(1, 1);
        x.image(0);
        Check.orders(x, "nonsense");
        Check.tape(x, new byte[] {99});
        x.row();
        x.evenings(0, 1);
        x.note(0, 0);
        Check.orders(x, "pass; shift 0");
        Check.law(x, "minds nonsense");
        Check.tape(x, "abc");
        x.back(0);
        check.due(40, "the tape", x.count(5), 3);
        check.due(40, "the fault", x.fault(), 6);
        check.due(40, "creaks", x.creaks(), 1);
        check.due(40, "where orders stopped", x.stopped(), 1);
        check.due(40, "evenings", x.drawn(0, 0), 0);
        check.due(40, "nothing to be undone", x.count(4), 0);
        check.due(40, "how many were refused", x.count(10), 2);
        check.due(40, "how many were refused", x.count(8), 1);
    }

    private static void counts() {
        KeyHouses x = new KeyHouses();
        x.house(1, 1);
        x.note(1, 1);
        x.note(2, 1);
        x.note(3, 15);
        x.motif(4);
        Check.law(x, "lends");
        Check.tape(x, "1234567");
        check.due(41, "houses", x.count(0), 1);
        check.due(41, "notes", x.count(1), 3);
        check.due(41, "sets", x.count(2), 1);
        check.due(41, "laws", x.count(3), 1);
        check.due(41, "to be undone", x.count(4), 3);
        check.due(41, "bytes", x.count(5), 7);
        check.due(41, "count(-1)", x.count(-1), -1);
        check.due(41, "count(15)", x.count(15), -1);
        x.note(8, 8);
        x.house(0, 0);
        x.force(3);
        x.give(0, -1);
        x.end(0);
        x.row();
        x.law();
        x.orders();
        for (int i = 0; i < 8; i++) {
            x.motif(1);
        }
        x.of(9, 9);
        x.least(99);
        x.end(-4);
        check.due(41, "by -1", x.count(6), 2);
        check.due(41, "by -2", x.count(7), 1);
        check.due(41, "by -3", x.count(8), 1);
        check.due(41, "by -5", x.count(9), 3);
        check.due(41, "by -6", x.count(10), 3);
    }

    private static void status(KeyHouses x, String call, int answer, int refused) {
        check.due(42, call, answer, refused == 0 ? answer : refused);
        check.due(42, "status() behind " + call, x.status(), refused);
    }

    private static void statuses() {
        KeyHouses x = new KeyHouses();
        check.due(42, "ahead of any", x.status(), 0);
        status(x, "house(0, 0)", x.house(0, 0), -1);
        status(x, "house(1, 1)", x.house(1, 1), 0);
        status(x, "terms(9, 0)", x.terms(9, 0), -1);
        status(x, "terms(2, 1)", x.terms(2, 1), 0);
        status(x, "row()", x.row(), -6);
        status(x, "law()", x.law(), -6);
        status(x, "orders() that run", Check.orders(x, "pass"), 0);
        status(x, "orders()", x.orders(), -6);
        status(x, "force(-1)", x.force(-1), 0);
        status(x, "force(0)", x.force(0), -2);
        status(x, "note(0, 0)", x.note(0, 0), 0);
        status(x, "note(0, 99)", x.note(0, 99), -1);
        status(x, "give(0, 0)", x.give(0, 0), 0);
        status(x, "give(0, 0)", x.give(0, 0), -3);
        status(x, "shift(1)", x.shift(1), 0);
        status(x, "shift(-2)", x.shift(-2), -3);
        status(x, "pass()", x.pass(), 0);
        status(x, "back(0)", x.back(0), -2);
        status(x, "undo()", x.undo(), 0);
        status(x, "motif(-1)", x.motif(-1), -1);
        status(x, "motif(1)", x.motif(1), 0);
        status(x, "evenings(0, 0)", x.evenings(0, 0), -1);
        status(x, "evenings(0, 1)", x.evenings(0, 1), 0);
        status(x, "image(5)", x.image(5), -1);
        status(x, "image(0)", x.image(0), 0);
        for (int i = 0; i < 4; i++) {
            status(x, "undo()", x.undo(), 0);
        }
        status(x, "undo()", x.undo(), -3);
        x.forget();
        x.end(0);
        x.feed(0, 0, 0, 0, 0);
        x.least(0);
        check.due(42, "others do not tell", x.status(), -3);
        status(x, "back(0)", x.back(0), 0);
        status(x, "law()", Check.law(x, "lends"), 0);
        x.note(9, 9);
        Check.tape(x, new byte[] {1, 1});
        status(x, "row()", x.row(), 0);
    }
}
