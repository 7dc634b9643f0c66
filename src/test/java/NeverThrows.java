import java.util.NoSuchElementException;

/** Calls with numbers from all over: nothing but what the document names is ever thrown, and each call ends. */
public final class NeverThrows {
    private static final int[] WILD = {Integer.MIN_VALUE, Integer.MIN_VALUE + 1, -300, -2, -1, 5, 6, 9, 10, 30, 60, 80, 81,
        299, 300, 301, 65536, Integer.MAX_VALUE - 1, Integer.MAX_VALUE};
    private static long drawn = 99;
    private static long sum = 0;

    public static void main(String[] args) {
        for (int run = 0; run < 300; run++) {
            BoltRow x = new BoltRow();
            for (int k = 0; k < 512; k++) {
                int which = draw(41);
                try {
                    sum += call(x, which);
                } catch (NoSuchElementException e) {
                    if (which != 10 && which != 36) {
                        System.out.println("NeverThrows: call " + which + " threw " + e);
                        System.exit(1);
                    }
                } catch (RuntimeException e) {
                    System.out.println("NeverThrows: call " + which + " threw " + e);
                    System.exit(1);
                }
            }
        }
        System.out.println("NeverThrows: nothing was thrown");
    }

    private static int draw(int n) {
        drawn = drawn * 6364136223846793005L + 1442695040888963407L;
        return (int) ((drawn >>> 33) % n);
    }

    private static int any() {
        return draw(6) == 0 ? WILD[draw(WILD.length)] : draw(3) == 0 ? draw(60) : draw(5);
    }

    private static int sound(BoltRow x) {
        int give = 1 + draw(5);
        int limp = 1 + draw(30);
        return x.bolt(give, draw(10), limp, give + draw(10 - give), limp + 1 + draw(60 - limp));
    }

    private static long call(BoltRow x, int which) {
        return switch (which) {
            case 0 -> x.bolt(any(), any(), any(), any(), any());
            case 1 -> x.plates(any(), any());
            case 2 -> x.pitch(any(), any());
            case 3 -> x.alters(any(), any(), any(), any(), any(), any());
            case 4 -> x.takes(any(), draw(2) == 0);
            case 5 -> x.swaps(any(), any()) ? 1 : 0;
            case 6 -> draw(40) == 0 ? x.clears() : 0;
            case 7 -> x.sign(draw(2) == 0 ? any() : 0x30303030 + draw(10) * 0x1000000 + draw(10) * 0x10000 + draw(16) * 256);
            case 8 -> x.end(any()) ? 1 : 0;
            case 9 -> x.joint();
            case 10 -> x.part(any(), any());
            case 11 -> x.force(any(), any());
            case 12 -> x.slip(any(), any());
            case 13 -> x.bears(any(), any());
            case 14 -> x.stretch(any());
            case 15 -> x.state(any(), any());
            case 16 -> x.idle(any());
            case 17 -> x.hardest(any());
            case 18 -> x.margin(any());
            case 19 -> x.work(any());
            case 20 -> x.set(any(), any());
            case 21 -> x.falls(any(), any(), any());
            case 22 -> x.opens(any());
            case 23 -> x.events();
            case 24 -> x.event(any());
            case 25 -> x.peak();
            case 26 -> x.order();
            case 27 -> x.when(any(), any());
            case 28 -> x.sheds(any());
            case 29 -> x.replays();
            case 30 -> x.without(any());
            case 31 -> x.tunes(any());
            case 32 -> draw(4) == 0 ? x.arranges() : 0;
            case 33 -> x.fits(any());
            case 34 -> x.chance(any(), any(), any());
            case 35 -> x.count(any());
            case 36 -> x.row(any());
            default -> sound(x);
        };
    }
}
