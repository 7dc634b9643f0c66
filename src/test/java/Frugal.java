import java.lang.management.ManagementFactory;

/** What is made is made with the object: no call takes room, so that any run of calls fits into the one room. */
public final class Frugal {
    private static final long MOST_OF_AN_OBJECT = 8000;
    private static long sum = 0;

    public static void main(String[] args) {
        com.sun.management.ThreadMXBean threads = (com.sun.management.ThreadMXBean) ManagementFactory.getThreadMXBean();
        // Once ahead, so that classes are loaded and no room that they take is counted.
        all(made());
        long before = threads.getCurrentThreadAllocatedBytes();
        BoltRow x = made();
        long built = threads.getCurrentThreadAllocatedBytes();
        for (int k = 0; k < 10; k++) {
            all(x);
        }
        long after = threads.getCurrentThreadAllocatedBytes();
        System.out.println("Frugal: an object takes " + (built - before) + " bytes, its calls " + (after - built));
        if (built - before > MOST_OF_AN_OBJECT || after - built > 1000) {
            System.exit(1);
        }
    }

    private static BoltRow made() {
        BoltRow x = new BoltRow();
        x.plates(2, 1);
        x.bolt(5, 0, 10, 9, 50);
        x.bolt(4, 3, 20, 9, 55);
        x.bolt(3, 5, 7, 8, 60);
        x.bolt(2, 2, 12, 6, 40);
        x.bolt(1, 9, 15, 5, 44);
        return x;
    }

    private static void all(BoltRow x) {
        sum += x.alters(0, 5, 1, 10, 9, 50) + x.alters(0, 5, 0, 10, 9, 50) + x.pitch(0, 2) + x.pitch(0, 1);
        sum += x.takes(2, true) + x.takes(2, false) + (x.swaps(0, 1) ? 1 : 0) + (x.swaps(0, 1) ? 1 : 0);
        for (int p = 0; p <= 300; p += 20) {
            for (int i = 0; i < 5; i++) {
                sum += x.force(p, i) + x.slip(p, i) + x.bears(p, i) + x.state(p, i) + x.set(p, i) + x.falls(p, p / 2, i);
            }
            sum += x.stretch(p) + x.idle(p) + x.hardest(p) + x.margin(p) + x.work(p) + x.opens(p) + x.fits(p);
        }
        for (int i = 0; i < 5; i++) {
            sum += x.when(2, i) + x.sheds(i) + x.without(i) + x.tunes(i) + x.part(i, 0) + x.event(i) + x.count(i);
        }
        sum += x.events() + x.peak() + x.order() + x.arranges() + x.chance(1, 40, 50) + x.row(0);
        sum += x.sign(0x30313200) + (x.end(3) ? 1 : 0) + x.replays() + x.sign(0x31323334) + x.joint();
    }
}
