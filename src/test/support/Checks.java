import java.util.NoSuchElementException;

/** What the tests that go by numbers worked out by hand have in common: how they check, and the joints that they use. */
abstract class Checks {
    static int wrong = 0;
    static int checked = 0;
    // What of the document is being checked.
    static String place = "";

    static void finish(String test) {
        System.out.println(test + ": " + checked + " checked, " + wrong + " wrong");
        if (wrong != 0) {
            System.exit(1);
        }
    }

    static void due(String call, long got, long want) {
        checked++;
        if (got != want) {
            wrong++;
            System.out.println(place + ": " + call + " answered " + got + ", due is " + want);
        }
    }

    static void due(String call, boolean got, boolean want) {
        due(call, got ? 1 : 0, want ? 1 : 0);
    }

    /** The answer and the whole row behind it. */
    static void told(BoltRow x, String call, long got, long want, long... row) {
        due(call, got, want);
        rowIs(x, call, row);
    }

    static void rowIs(BoltRow x, String call, long... row) {
        due("count(5) behind " + call, x.count(5), row.length);
        for (int i = 0; i < row.length && i < x.count(5); i++) {
            due("row(" + i + ") behind " + call, x.row(i), row[i]);
        }
    }

    static boolean partThrows(BoltRow x, int i, int what) {
        try {
            x.part(i, what);
            return false;
        } catch (NoSuchElementException e) {
            return true;
        }
    }

    static boolean rowThrows(BoltRow x, int i) {
        try {
            x.row(i);
            return false;
        } catch (NoSuchElementException e) {
            return true;
        }
    }

    static void write(BoltRow x, String s) {
        x.end(0);
        for (int k = 0; k < s.length(); k += 4) {
            int v = 0;
            for (int j = 0; j < 4; j++) {
                v = v << 8 | (k + j < s.length() ? s.charAt(k + j) : 0);
            }
            x.sign(v);
        }
        x.end(s.length());
    }

    static BoltRow made(int a, int b, int[]... bolts) {
        BoltRow x = new BoltRow();
        x.plates(a, b);
        for (int[] v : bolts) {
            x.bolt(v[0], v[1], v[2], v[3], v[4]);
        }
        return x;
    }

    static int[] v(int... numbers) {
        return numbers;
    }

    /**
     * Plates give nothing, so both bolts have one slip d. Bolt 0: d till 10, then 10 and half of what d is above 10.
     * Bolt 1: d - 3 from 3 on; it breaks at 6, so at d 9, p 15. Bolt 0 has 15 then, and breaks at 20.
     */
    static BoltRow stiff() {
        return made(0, 0, v(1, 0, 10, 2, 20), v(1, 3, 5, 1, 6));
    }

    /** Plates give nothing, all bolts have a third of p till 30; then the three break one behind another. */
    static BoltRow zip() {
        return made(0, 0, v(1, 0, 9, 1, 10), v(1, 0, 13, 1, 14), v(1, 0, 12, 1, 13));
    }

    /** The middle one is out: slip 0 is f0, slip 2 is f2, both gaps bear f0 below. */
    static BoltRow chain(int a, int b) {
        BoltRow x = made(a, b, v(1, 0, 10, 1, 20), v(1, 0, 10, 1, 20), v(1, 0, 10, 1, 20));
        x.takes(1, true);
        return x;
    }

    /** At p 28 both slips are 16: bolt 0 has 12, 2 above its yield, so its set is 4; bolt 1 has 16, none. */
    static BoltRow worn() {
        return made(0, 0, v(1, 0, 10, 3, 30), v(1, 0, 20, 1, 30));
    }

    /** Forces are as 6 to 3 to 2; bolt 0 breaks at 7, p 77/6; then the others have 77/10 and 77/15. */
    static BoltRow thirds() {
        return made(0, 0, v(1, 0, 6, 1, 7), v(2, 0, 30, 2, 60), v(3, 0, 30, 3, 60));
    }

    /** Peak is 40 less what the clears are apart. */
    static BoltRow twins(int c0, int c1) {
        return made(0, 0, v(1, c0, 10, 1, 20), v(1, c1, 10, 1, 20));
    }
}
