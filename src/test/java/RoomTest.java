import java.lang.management.ManagementFactory;

/** All calls of one run live in one room: nothing is made but by the constructor and by laws that are read. */
public final class RoomTest {
    private static int wrong;

    public static void main(String[] args) {
        com.sun.management.ThreadMXBean threads = (com.sun.management.ThreadMXBean) ManagementFactory.getThreadMXBean();
        long self = Thread.currentThread().getId();
        dearCalls(busyStreet());
        long made = threads.getThreadAllocatedBytes(self);
        KeyHouses x = busyStreet();
        long built = threads.getThreadAllocatedBytes(self);
        dearCalls(x);
        long used = threads.getThreadAllocatedBytes(self);
        x = new KeyHouses();
        long bare = threads.getThreadAllocatedBytes(self);
        expect("a new object and a busy street, bytes", built - made, 80000);
        expect("three hundred dear calls, bytes", used - built, 2000);
        expect("a new object, bytes", bare - used, 40000);
        System.exit(wrong == 0 ? 0 : 1);
    }

    private static void expect(String what, long got, long most) {
        System.out.println(what + ": " + got);
        if (got > most) {
            wrong++;
            System.out.println("that is more than " + most);
        }
    }

    private static KeyHouses busyStreet() {
        KeyHouses x = new KeyHouses();
        for (int house = 0; house < 6; house++) {
            x.house(3, 7);
        }
        for (int beat = 0; beat < 16; beat++) {
            Check.set(x, beat, 255);
        }
        for (int i = 0; i < 6; i++) {
            Check.law(x, "lends; minds [key * house + beat] % 7 if not (key = 3 and (house = 2 or beat > 9));" + Check.repeat("minds day;", 8) + "lends");
        }
        x.force(0);
        return x;
    }

    private static long dearCalls(KeyHouses x) {
        long sum = 0;
        for (int i = 0; i < 13; i++) {
            sum += x.drill() + x.least(-1) + x.who(3, 3) + x.ways(4) + x.might(5, 5) + x.cover(1) + x.run(63, 0);
            sum += x.best(1) + x.find(-1) + x.owes(0, 1) + x.settled() + x.few(20, 99) + x.compare(1) + x.asks(0, 0, 0, 0);
            sum += x.image(0) + x.back(0) + x.note(1, 1) + x.undo() + x.shift(1) + x.pass() + x.undo();
            sum += x.feed(0x70617373, 0x20202020, 0x20202020, 0x20202020, 0x20202020) + x.orders();
            sum += i % 4 == 0 ? x.evenings(i, 20) : 0;
        }
        return sum;
    }
}
