/** Each promise of the document by numbers worked out by hand: ordinary ones, edges, wrong ones. */
public final class Promises extends Checks {
    public static void main(String[] args) {
        newObject();
        bolt();
        plates();
        pitch();
        alters();
        takes();
        swaps();
        clears();
        sign();
        end();
        joint();
        part();
        force();
        slip();
        bears();
        stretch();
        state();
        idle();
        hardest();
        margin();
        work();
        set();
        falls();
        opens();
        events();
        event();
        peak();
        order();
        when();
        sheds();
        replays();
        without();
        tunes();
        arranges();
        fits();
        chance();
        count();
        row();
        rowStays();
        asksChangeNothing();
        eachChangeCounts();
        fiveBolts();
        unlike();
        finish("Promises");
    }

    // ---- the promises

    private static void newObject() {
        place = "promise 1";
        BoltRow x = new BoltRow();
        due("count(0)", x.count(0), 0);
        due("count(1)", x.count(1), 0);
        due("count(4)", x.count(4), 0);
        due("count(5)", x.count(5), 0);
        due("count(6)", x.count(6), 0);
        due("count(7)", x.count(7), 1);
        due("count(8)", x.count(8), 1);
        due("NONE", BoltRow.NONE, -1);
    }

    private static void bolt() {
        place = "promise 2";
        BoltRow x = new BoltRow();
        int[][] bad = {
            v(0, 0, 1, 1, 2), v(6, 0, 1, 6, 2), v(1, -1, 1, 1, 2), v(1, 10, 1, 1, 2), v(1, 0, 0, 1, 2),
            v(1, 0, 31, 1, 40), v(3, 0, 1, 2, 2), v(1, 0, 1, 10, 2), v(1, 0, 9, 1, 9), v(1, 0, 9, 1, 8),
            v(1, 0, 30, 1, 61), v(1, 0, 1, 1, Integer.MAX_VALUE), v(1, 0, Integer.MAX_VALUE, 1, Integer.MIN_VALUE),
        };
        for (int[] b : bad) {
            due("bolt, not fair", x.bolt(b[0], b[1], b[2], b[3], b[4]), -1);
        }
        due("bolt, least", x.bolt(1, 0, 1, 1, 2), 1);
        due("bolt, most", x.bolt(5, 9, 30, 9, 60), 2);
        due("bolt, soft is give", x.bolt(5, 9, 30, 5, 31), 3);
        due("bolt", x.bolt(2, 3, 4, 5, 6), 4);
        due("bolt", x.bolt(2, 3, 4, 5, 6), 5);
        due("bolt, sixth", x.bolt(2, 3, 4, 5, 6), -2);
        due("bolt, sixth, not fair", x.bolt(0, 3, 4, 5, 6), -1);
        due("count(0)", x.count(0), 5);
        due("part(1, 1)", x.part(1, 1), 9);
        due("pitch between", x.part(3, 6), 1);
    }

    private static void plates() {
        place = "promise 3";
        BoltRow x = new BoltRow();
        due("plates(1, 1)", x.plates(1, 1), -2);
        due("plates(2, 0)", x.plates(2, 0), 11);
        due("plates(2, 0)", x.plates(2, 0), -2);
        due("plates(0, 2)", x.plates(0, 2), 20);
        due("plates(0, 0)", x.plates(0, 0), 2);
        due("plates(3, 0)", x.plates(3, 0), -1);
        due("plates(0, 3)", x.plates(0, 3), -1);
        due("plates(-1, 0)", x.plates(-1, 0), -1);
        due("plates(0, -1)", x.plates(0, -1), -1);
        due("count(7)", x.count(7), 0);
        due("count(8)", x.count(8), 0);
        // forces change with the plates
        BoltRow y = made(2, 0, v(1, 0, 10, 1, 20), v(1, 0, 10, 1, 20));
        told(y, "force(8, 0)", y.force(8, 0), 0, 6, 1);
        y.plates(0, 2);
        told(y, "force(8, 0)", y.force(8, 0), 0, 2, 1);
    }

    private static void pitch() {
        place = "promise 4";
        BoltRow x = twins(0, 0);
        due("pitch(0, 1)", x.pitch(0, 1), -2);
        due("pitch(0, 2)", x.pitch(0, 2), 1);
        due("pitch(0, 0)", x.pitch(0, 0), 2);
        due("pitch(0, 0)", x.pitch(0, 0), -2);
        due("pitch(0, 3)", x.pitch(0, 3), -1);
        due("pitch(0, -1)", x.pitch(0, -1), -1);
        due("pitch(1, 1)", x.pitch(1, 1), -1);
        due("pitch(-1, 1)", x.pitch(-1, 1), -1);
        due("pitch of none", new BoltRow().pitch(0, 1), -1);
        due("part(0, 6)", x.part(0, 6), 0);
        x.bolt(1, 0, 1, 1, 2);
        due("part(1, 6)", x.part(1, 6), 1);
        BoltRow y = chain(1, 0);
        y.pitch(0, 2);
        told(y, "force(10, 0)", y.force(10, 0), 0, 8, 1);
    }

    private static void alters() {
        place = "promise 5";
        BoltRow x = stiff();
        due("alters, as it is", x.alters(0, 1, 0, 10, 2, 20), -2);
        due("alters, one", x.alters(0, 1, 0, 10, 2, 21), 1);
        told(x, "peak()", x.peak(), 1, 21, 1);
        due("alters, all", x.alters(0, 2, 1, 11, 3, 22), 5);
        due("part(0, 0)", x.part(0, 0), 2);
        due("part(0, 1)", x.part(0, 1), 1);
        due("part(0, 2)", x.part(0, 2), 11);
        due("part(0, 3)", x.part(0, 3), 3);
        due("part(0, 4)", x.part(0, 4), 22);
        due("alters, no bolt", x.alters(2, 1, 0, 10, 2, 20), -1);
        due("alters, no bolt", x.alters(-1, 1, 0, 10, 2, 20), -1);
        due("alters, not fair", x.alters(0, 2, 1, 11, 3, 11), -1);
        x.takes(1, true);
        due("alters, out", x.alters(1, 1, 3, 5, 1, 7), 1);
        due("part(1, 5)", x.part(1, 5), 1);
    }

    private static void takes() {
        place = "promise 6";
        BoltRow x = stiff();
        due("takes(0, false)", x.takes(0, false), -2);
        due("takes(0, true)", x.takes(0, true), 1);
        due("takes(0, true)", x.takes(0, true), -2);
        due("takes(1, true)", x.takes(1, true), 0);
        due("part(1, 5)", x.part(1, 5), 1);
        due("takes(0, false)", x.takes(0, false), 1);
        told(x, "peak()", x.peak(), 1, 20, 1);
        due("takes(1, false)", x.takes(1, false), 2);
        due("takes(2, true)", x.takes(2, true), -1);
        due("takes(-1, false)", x.takes(-1, false), -1);
    }

    private static void swaps() {
        place = "promise 7";
        BoltRow x = stiff();
        x.pitch(0, 2);
        x.takes(1, true);
        due("swaps(0, 1)", x.swaps(0, 1), true);
        due("part(0, 1)", x.part(0, 1), 3);
        due("part(1, 1)", x.part(1, 1), 0);
        due("part(0, 4)", x.part(0, 4), 6);
        due("part(1, 3)", x.part(1, 3), 2);
        due("part(0, 5)", x.part(0, 5), 1);
        due("part(1, 5)", x.part(1, 5), 0);
        due("part(0, 6)", x.part(0, 6), 2);
        due("swaps(0, 0)", x.swaps(0, 0), false);
        due("swaps(0, 2)", x.swaps(0, 2), false);
        due("swaps(-1, 0)", x.swaps(-1, 0), false);
        told(x, "order()", x.order(), 1, 1);
    }

    private static void clears() {
        place = "promise 8";
        BoltRow x = made(2, 0, v(1, 0, 10, 1, 20), v(1, 0, 10, 1, 20));
        x.takes(1, true);
        x.pitch(0, 2);
        due("clears()", x.clears(), 2);
        due("clears()", x.clears(), 0);
        due("count(0)", x.count(0), 0);
        due("count(7)", x.count(7), 2);
        due("count(8)", x.count(8), 0);
        due("count(4)", x.count(4), 0);
        x.bolt(1, 0, 1, 1, 2);
        x.bolt(1, 0, 1, 1, 2);
        due("part(1, 5)", x.part(1, 5), 0);
        due("part(0, 6)", x.part(0, 6), 1);
    }

    private static void sign() {
        place = "promise 9";
        BoltRow x = stiff();
        due("sign", x.sign(0x31300000), 4);
        x.end(2);
        told(x, "replays()", x.replays(), 2, 1);
        due("sign, highest first", x.sign(0x31302f2f), 4);
        for (int k = 2; k <= 20; k++) {
            due("sign", x.sign(k), 4 * k);
        }
        due("sign, too many", x.sign(0), -1);
        due("count(6)", x.count(6), 80);
        x.end(77);
        due("sign, 81", x.sign(0), -1);
        x.end(76);
        due("sign, 80", x.sign(-1), 80);
        x.end(0);
        x.sign(0xb1000000);
        x.end(1);
        due("joint() of a sign above 127", x.joint(), -1);
    }

    private static void end() {
        place = "promise 10";
        BoltRow x = new BoltRow();
        due("end(0)", x.end(0), true);
        due("end(1)", x.end(1), false);
        due("end(-1)", x.end(-1), false);
        x.sign(0x30303030);
        due("end(5)", x.end(5), false);
        due("end(4)", x.end(4), true);
        due("end(3)", x.end(3), true);
        due("count(6)", x.count(6), 3);
        due("end(4)", x.end(4), false);
        due("count(6)", x.count(6), 3);
    }

    private static void jointDue(String text, int want) {
        BoltRow x = stiff();
        x.takes(0, true);
        write(x, text);
        due("joint() of " + text, x.joint(), want);
        due("count(6) behind joint()", x.count(6), 0);
        if (want < 0) {
            due("count(0) behind joint()", x.count(0), 2);
            due("count(1) behind joint()", x.count(1), 1);
            due("count(7) behind joint()", x.count(7), 0);
        }
    }

    private static void joint() {
        place = "promise 11";
        String one = "10100120";
        jointDue("11" + one, 1);
        jointDue("00" + one + "/0" + one, 2);
        String five = "22" + one + "/0" + one + "/1" + one + "/2" + one + "/2" + "59300960";
        jointDue(five, 5);
        jointDue(five + "/1" + one, -51);
        jointDue(five + "x", -51);
        jointDue("", -1);
        jointDue("x", -1);
        jointDue("3", -1);
        jointDue("23", -2);
        jointDue("2/", -2);
        jointDue("2", -2);
        jointDue("22", -3);
        jointDue("220", -3);
        jointDue("226", -3);
        jointDue("225", -4);
        jointDue("225/", -4);
        jointDue("2259", -5);
        jointDue("2259x", -5);
        jointDue("22590", -6);
        jointDue("225900", -6);
        jointDue("225931", -6);
        jointDue("225930", -7);
        jointDue("2259300", -8);
        jointDue("22593004", -8);
        jointDue("22593010", -8);
        jointDue("225930099", -10);
        jointDue("2259300930", -10);
        jointDue("2259300961", -10);
        jointDue("2259300931", 1);
        jointDue("2259300931/", -12);
        jointDue("2259300931/3", -12);
        jointDue("2259300931/2", -13);
        jointDue("22593009310", -11);
        jointDue("2259300931/2" + one + "/", -22);
        BoltRow x = stiff();
        x.takes(0, true);
        for (String bad : new String[] {five + "/", "22593004", "x", ""}) {
            write(x, bad);
            due("joint() of " + bad, x.joint(), -1 - Math.max(0, bad.length() - 1));
        }
        write(x, "11" + "10010102" + "/1" + "10010102");
        due("joint() behind others", x.joint(), 2);
        write(x, "2159300931/2" + one);
        due("joint()", x.joint(), 2);
        int[] want = {5, 9, 30, 9, 31, 0, 2};
        for (int k = 0; k < 7; k++) {
            due("part(0, " + k + ")", x.part(0, k), want[k]);
        }
        due("part(1, 6)", x.part(1, 6), 0);
        due("count(7)", x.count(7), 2);
        due("count(8)", x.count(8), 1);
        due("count(1)", x.count(1), 2);
        due("count(4)", x.count(4), 6);
    }

    private static void part() {
        place = "promise 12";
        BoltRow x = made(1, 1, v(1, 2, 3, 4, 5), v(2, 3, 4, 5, 6));
        x.pitch(0, 2);
        x.takes(1, true);
        int[][] want = {v(1, 2, 3, 4, 5, 0, 2), v(2, 3, 4, 5, 6, 1, 0)};
        for (int i = 0; i < 2; i++) {
            for (int what = 0; what < 7; what++) {
                due("part(" + i + ", " + what + ")", x.part(i, what), want[i][what]);
            }
        }
        due("part(0, 7) throws", partThrows(x, 0, 7), true);
        due("part(0, -1) throws", partThrows(x, 0, -1), true);
        due("part(2, 0) throws", partThrows(x, 2, 0), true);
        due("part(-1, 0) throws", partThrows(x, -1, 0), true);
        due("part(0, 0) of none throws", partThrows(new BoltRow(), 0, 0), true);
    }

    private static void force() {
        place = "promise 13";
        BoltRow x = stiff();
        told(x, "force(0, 0)", x.force(0, 0), 0, 0, 1);
        told(x, "force(3, 0)", x.force(3, 0), 0, 3, 1);
        told(x, "force(3, 1)", x.force(3, 1), 0, 0, 1);
        told(x, "force(14, 0)", x.force(14, 0), 0, 17, 2);
        told(x, "force(14, 1)", x.force(14, 1), 0, 11, 2);
        told(x, "force(15, 0)", x.force(15, 0), 0, 15, 1);
        told(x, "force(15, 1)", x.force(15, 1), 0, 0, 1);
        due("force(20, 0)", x.force(20, 0), -2);
        due("force(300, 0)", x.force(300, 0), -2);
        due("force(301, 0)", x.force(301, 0), -1);
        due("force(-1, 0)", x.force(-1, 0), -1);
        due("force(5, 2)", x.force(5, 2), -1);
        due("force(300, 2)", x.force(300, 2), -1);
        due("force(5, -1)", x.force(5, -1), -1);
        x.takes(1, true);
        told(x, "force(14, 1), out", x.force(14, 1), 0, 0, 1);
        told(x, "force(14, 0), alone", x.force(14, 0), 0, 14, 1);
        x.takes(0, true);
        due("force(0, 0), all out", x.force(0, 0), -2);
    }

    private static void slip() {
        place = "promise 14";
        BoltRow x = stiff();
        told(x, "slip(0, 1)", x.slip(0, 1), 0, 0, 1);
        told(x, "slip(5, 0)", x.slip(5, 0), 0, 4, 1);
        told(x, "slip(14, 1)", x.slip(14, 1), 0, 17, 2);
        told(x, "slip(15, 0)", x.slip(15, 0), 0, 20, 1);
        told(x, "slip(15, 1), broken", x.slip(15, 1), 0, 20, 1);
        due("slip(20, 1)", x.slip(20, 1), -2);
        due("slip(301, 1)", x.slip(301, 1), -1);
        due("slip(1, 2)", x.slip(1, 2), -1);
        x.takes(0, true);
        told(x, "slip(0, 0), least clear of those not out", x.slip(0, 0), 0, 3, 1);
        x.takes(1, true);
        due("slip(0, 0), all out", x.slip(0, 0), -2);
        BoltRow y = chain(1, 0);
        told(y, "slip(8, 0)", y.slip(8, 0), 0, 6, 1);
        told(y, "slip(8, 1), out", y.slip(8, 1), 0, 4, 1);
        told(y, "slip(8, 2)", y.slip(8, 2), 0, 2, 1);
    }

    private static void bears() {
        place = "promise 15";
        BoltRow x = chain(1, 0);
        told(x, "bears(8, 0)", x.bears(8, 0), 0, 2, 1, 6, 1);
        told(x, "bears(8, 1)", x.bears(8, 1), 0, 2, 1, 6, 1);
        told(x, "bears(0, 1)", x.bears(0, 1), 0, 0, 1, 0, 1);
        told(x, "bears(1, 1)", x.bears(1, 1), 0, 1, 4, 3, 4);
        due("bears(8, 2)", x.bears(8, 2), -1);
        due("bears(8, -1)", x.bears(8, -1), -1);
        due("bears(301, 0)", x.bears(301, 0), -1);
        due("bears(-1, 0)", x.bears(-1, 0), -1);
        due("bears(300, 0)", x.bears(300, 0), -2);
        due("bears(300, 2)", x.bears(300, 2), -1);
        BoltRow y = chain(0, 1);
        told(y, "bears(8, 0)", y.bears(8, 0), 0, 6, 1, 2, 1);
    }

    private static void stretch() {
        place = "promise 16";
        BoltRow x = chain(1, 0);
        told(x, "stretch(8)", x.stretch(8), 0, 6, 1);
        BoltRow y = chain(0, 1);
        told(y, "stretch(8)", y.stretch(8), 0, 6, 1);
        // f2 is f0 and twice f0 and once f0
        y.pitch(1, 2);
        told(y, "stretch(10)", y.stretch(10), 0, 8, 1);
        told(y, "stretch(0)", y.stretch(0), 0, 0, 1);
        due("stretch(-1)", y.stretch(-1), -1);
        due("stretch(301)", y.stretch(301), -1);
        due("stretch(200)", y.stretch(200), -2);
        due("stretch(0), none", new BoltRow().stretch(0), -1);
        due("stretch(300), none", new BoltRow().stretch(300), -1);
    }

    private static void state() {
        place = "promise 17";
        BoltRow x = stiff();
        due("state(0, 0)", x.state(0, 0), 0);
        due("state(1, 0)", x.state(1, 0), 1);
        due("state(3, 1)", x.state(3, 1), 0);
        due("state(4, 1)", x.state(4, 1), 1);
        due("state(13, 1), at its yield", x.state(13, 1), 1);
        due("state(14, 1)", x.state(14, 1), 2);
        due("state(15, 1)", x.state(15, 1), 3);
        due("state(15, 0)", x.state(15, 0), 2);
        due("state(20, 0)", x.state(20, 0), 3);
        due("state(300, 0)", x.state(300, 0), 3);
        due("state(301, 0)", x.state(301, 0), -1);
        due("state(-1, 0)", x.state(-1, 0), -1);
        due("state(0, 2)", x.state(0, 2), -1);
        due("state(0, -1)", x.state(0, -1), -1);
        x.takes(1, true);
        due("state(0, 1), out", x.state(0, 1), 4);
        due("state(300, 1), out", x.state(300, 1), 4);
        due("state(300, 0)", x.state(300, 0), 3);
        x.takes(0, true);
        due("state(0, 0), all out", x.state(0, 0), 4);
    }

    private static void idle() {
        place = "promise 18";
        BoltRow x = stiff();
        told(x, "idle(0)", x.idle(0), 3, 0);
        told(x, "idle(3)", x.idle(3), 2, 0);
        told(x, "idle(4)", x.idle(4), 0, 0);
        told(x, "idle(15)", x.idle(15), 0, 2);
        told(x, "idle(20)", x.idle(20), 0, 3);
        x.takes(1, true);
        told(x, "idle(0), one out", x.idle(0), 1, 0);
        told(x, "idle(300), one out", x.idle(300), 0, 1);
        due("idle(301)", x.idle(301), -1);
        due("idle(-1)", x.idle(-1), -1);
        BoltRow y = new BoltRow();
        told(y, "idle(0), none", y.idle(0), 0, 0);
    }

    private static void hardest() {
        place = "promise 19";
        BoltRow x = stiff();
        told(x, "hardest(5)", x.hardest(5), 0, 800, 2);
        told(x, "hardest(14)", x.hardest(14), 0, 607, 2);
        told(x, "hardest(3)", x.hardest(3), 0, 1000, 1);
        told(x, "hardest(0)", x.hardest(0), 0, 0, 0);
        told(x, "hardest(15)", x.hardest(15), 0, 1000, 1);
        due("hardest(20)", x.hardest(20), -2);
        due("hardest(-1)", x.hardest(-1), -1);
        due("hardest(301)", x.hardest(301), -1);
        due("hardest(0), none", new BoltRow().hardest(0), -1);
        BoltRow y = zip();
        told(y, "hardest(29), of equal ones", y.hardest(29), 0, 333, 3);
        BoltRow z = made(0, 2, v(1, 0, 10, 1, 20), v(1, 0, 10, 1, 20));
        told(z, "hardest(8)", z.hardest(8), 1, 750, 2);
    }

    private static void margin() {
        place = "promise 20";
        BoltRow x = stiff();
        told(x, "margin(0)", x.margin(0), 0, 3, 1, 0, 1);
        told(x, "margin(3)", x.margin(3), 0, 10, 1, 1, 1);
        told(x, "margin(13)", x.margin(13), 0, 2, 1, 2, 1);
        told(x, "margin(15)", x.margin(15), 0, 5, 1, 2, 0);
        told(x, "margin(19)", x.margin(19), 0, 1, 1, 2, 0);
        due("margin(20)", x.margin(20), -2);
        due("margin(301)", x.margin(301), -1);
        due("margin(-1)", x.margin(-1), -1);
        due("margin(0), none", new BoltRow().margin(0), -1);
        BoltRow y = thirds();
        told(y, "margin(12)", y.margin(12), 0, 5, 6, 2, 0);
    }

    private static void work() {
        place = "promise 21";
        BoltRow x = stiff();
        told(x, "work(5)", x.work(5), 0, 17, 1, 0, 1);
        told(x, "work(14)", x.work(14), 0, 205, 2, 0, 1);
        told(x, "work(15)", x.work(15), 0, 350, 1, 0, 1);
        told(x, "work(0)", x.work(0), 0, 0, 1, 0, 1);
        due("work(20)", x.work(20), -2);
        due("work(301)", x.work(301), -1);
        due("work(0), none", new BoltRow().work(0), -1);
        BoltRow y = chain(1, 0);
        told(y, "work(8)", y.work(8), 0, 40, 1, 8, 1);
        y.pitch(0, 2);
        told(y, "work(10)", y.work(10), 0, 68, 1, 12, 1);
        BoltRow z = chain(0, 1);
        told(z, "work(8)", z.work(8), 0, 40, 1, 8, 1);
    }

    private static void set() {
        place = "promise 22";
        BoltRow x = worn();
        told(x, "set(28, 0)", x.set(28, 0), 0, 4, 1);
        told(x, "set(28, 1)", x.set(28, 1), 0, 0, 1);
        told(x, "set(20, 0), at its yield", x.set(20, 0), 0, 0, 1);
        told(x, "set(21, 0)", x.set(21, 0), 0, 1, 2);
        due("set(300, 0)", x.set(300, 0), -2);
        due("set(301, 0)", x.set(301, 0), -1);
        due("set(28, 2)", x.set(28, 2), -1);
        due("set(300, 2)", x.set(300, 2), -1);
        BoltRow y = stiff();
        told(y, "set(5, 1)", y.set(5, 1), 0, 3, 1);
        told(y, "set(15, 0)", y.set(15, 0), 0, 5, 1);
        due("set(15, 1), broken", y.set(15, 1), -3);
        y.takes(1, true);
        due("set(5, 1), out", y.set(5, 1), -3);
        due("set(20, 1), out", y.set(20, 1), -2);
    }

    private static void falls() {
        place = "promise 23";
        BoltRow x = worn();
        told(x, "falls(28, 28, 0)", x.falls(28, 28, 0), 0, 12, 1, 16, 1);
        told(x, "falls(28, 27, 0), whatever force is", x.falls(28, 27, 0), 0, 23, 2, 31, 2);
        told(x, "falls(28, 10, 0)", x.falls(28, 10, 0), 0, 3, 1, 7, 1);
        told(x, "falls(28, 10, 1)", x.falls(28, 10, 1), 0, 7, 1, 7, 1);
        told(x, "falls(28, 4, 0)", x.falls(28, 4, 0), 0, 0, 1, 4, 1);
        told(x, "falls(28, 3, 0)", x.falls(28, 3, 0), 0, 0, 1, 3, 1);
        told(x, "falls(28, 3, 1)", x.falls(28, 3, 1), 0, 3, 1, 3, 1);
        told(x, "falls(28, 0, 1)", x.falls(28, 0, 1), 0, 0, 1, 0, 1);
        due("falls(28, 29, 0)", x.falls(28, 29, 0), -1);
        due("falls(28, -1, 0)", x.falls(28, -1, 0), -1);
        due("falls(301, 0, 0)", x.falls(301, 0, 0), -1);
        due("falls(-1, -1, 0)", x.falls(-1, -1, 0), -1);
        due("falls(28, 0, 2)", x.falls(28, 0, 2), -1);
        due("falls(300, 0, 0)", x.falls(300, 0, 0), -2);
        due("falls(300, 301, 0)", x.falls(300, 301, 0), -1);
        BoltRow y = stiff();
        told(y, "falls(15, 5, 0)", y.falls(15, 5, 0), 0, 5, 1, 10, 1);
        told(y, "falls(15, 5, 1), broken", y.falls(15, 5, 1), 0, 0, 1, 10, 1);
        told(y, "falls(15, 0, 1), the least set of those left", y.falls(15, 0, 1), 0, 0, 1, 5, 1);
        told(y, "falls(5, 2, 1)", y.falls(5, 2, 1), 0, 0, 1, 2, 1);
    }

    private static void opens() {
        place = "promise 24";
        BoltRow x = worn();
        told(x, "opens(28)", x.opens(28), 0, 4, 1);
        told(x, "opens(10), of several the first", x.opens(10), 0, 0, 1);
        due("opens(0)", x.opens(0), -3);
        due("opens(300)", x.opens(300), -2);
        due("opens(301)", x.opens(301), -1);
        due("opens(0), none", new BoltRow().opens(0), -1);
        BoltRow y = stiff();
        told(y, "opens(5)", y.opens(5), 1, 3, 1);
        told(y, "opens(3)", y.opens(3), 0, 0, 1);
        told(y, "opens(15)", y.opens(15), 0, 0, 1);
        BoltRow z = made(2, 0, v(1, 0, 10, 2, 20), v(1, 0, 10, 2, 20));
        told(z, "opens(20)", z.opens(20), 0, 4, 3);
    }

    private static void eventIs(BoltRow x, int k, int kind, long... row) {
        told(x, "event(" + k + ")", x.event(k), kind, row);
    }

    private static void events() {
        place = "promise 25";
        BoltRow x = stiff();
        told(x, "events()", x.events(), 6, 2, 2, 2);
        x.takes(0, true);
        told(x, "events()", x.events(), 3, 1, 1, 1);
        x.takes(1, true);
        told(x, "events()", x.events(), 0, 0, 0, 0);
    }

    private static void event() {
        place = "promise 26";
        BoltRow x = stiff();
        eventIs(x, 0, 0, 0, 0, 1);
        eventIs(x, 1, 0, 1, 3, 1);
        eventIs(x, 2, 1, 1, 13, 1);
        eventIs(x, 3, 2, 1, 15, 1);
        eventIs(x, 4, 1, 0, 15, 1);
        eventIs(x, 5, 2, 0, 20, 1);
        due("event(6)", x.event(6), -1);
        due("event(-1)", x.event(-1), -1);
        due("event(0), none", new BoltRow().event(0), -1);
        // one breaks, the two others yield by it, the worse one of them breaks next
        BoltRow y = zip();
        eventIs(y, 0, 0, 0, 0, 1);
        eventIs(y, 2, 0, 2, 0, 1);
        eventIs(y, 3, 1, 0, 27, 1);
        eventIs(y, 4, 2, 0, 30, 1);
        eventIs(y, 5, 1, 1, 30, 1);
        eventIs(y, 6, 1, 2, 30, 1);
        eventIs(y, 7, 2, 2, 30, 1);
        eventIs(y, 8, 2, 1, 30, 1);
        // at p 11 bolt 1 breaks; bolt 2 is above its yield by it, bolt 0 just at it, so bolt 0 yields as load goes on
        BoltRow z = made(0, 0, v(2, 0, 4, 2, 7), v(1, 1, 1, 2, 3), v(1, 1, 6, 1, 12));
        eventIs(z, 3, 1, 1, 3, 1);
        eventIs(z, 4, 2, 1, 11, 1);
        eventIs(z, 5, 1, 2, 11, 1);
        eventIs(z, 6, 1, 0, 11, 1);
        eventIs(z, 7, 2, 2, 37, 2);
        // both others begin just where the first one breaks: ahead of it, as its load is still borne
        BoltRow s = made(0, 0, v(1, 0, 8, 1, 9), v(5, 9, 1, 9, 2), v(1, 9, 1, 1, 2));
        eventIs(s, 1, 1, 0, 8, 1);
        eventIs(s, 2, 0, 1, 9, 1);
        eventIs(s, 3, 0, 2, 9, 1);
        eventIs(s, 4, 2, 0, 9, 1);
        eventIs(s, 5, 1, 1, 9, 1);
        eventIs(s, 6, 1, 2, 9, 1);
        eventIs(s, 7, 2, 2, 9, 1);
        eventIs(s, 8, 2, 1, 9, 1);
        // behind the first break bolt 1 has just its break, bolt 2 just its yield: the break is next, it does not go on yet
        BoltRow r = made(0, 0, v(1, 0, 9, 1, 10), v(1, 0, 13, 1, 15), v(1, 0, 15, 1, 40));
        eventIs(r, 4, 2, 0, 30, 1);
        eventIs(r, 5, 1, 1, 30, 1);
        eventIs(r, 6, 2, 1, 30, 1);
        eventIs(r, 7, 1, 2, 30, 1);
        eventIs(r, 8, 2, 2, 40, 1);
        // it breaks ahead of that: both begin and yield by it
        s.alters(0, 1, 0, 7, 1, 8);
        eventIs(s, 1, 1, 0, 7, 1);
        eventIs(s, 2, 2, 0, 8, 1);
        eventIs(s, 3, 0, 1, 8, 1);
        eventIs(s, 4, 0, 2, 8, 1);
        eventIs(s, 5, 1, 1, 8, 1);
        eventIs(s, 6, 1, 2, 8, 1);
        eventIs(s, 7, 2, 2, 8, 1);
        eventIs(s, 8, 2, 1, 8, 1);
    }

    private static void peak() {
        place = "promise 27";
        BoltRow x = stiff();
        told(x, "peak()", x.peak(), 1, 20, 1);
        x.alters(0, 1, 0, 10, 2, 14);
        told(x, "peak(), both at once", x.peak(), 2, 15, 1);
        BoltRow y = zip();
        told(y, "peak()", y.peak(), 3, 30, 1);
        y.takes(1, true);
        y.takes(2, true);
        y.takes(0, true);
        told(y, "peak(), all out", y.peak(), 0, 0, 1);
        BoltRow z = made(1, 1, v(1, 0, 10, 1, 20), v(1, 5, 10, 1, 20));
        told(z, "peak()", z.peak(), 2, 75, 2);
    }

    private static void order() {
        place = "promise 28";
        BoltRow x = stiff();
        told(x, "order()", x.order(), 2, 1, 0);
        BoltRow y = zip();
        told(y, "order()", y.order(), 3, 0, 2, 1);
        y.takes(2, true);
        told(y, "order()", y.order(), 2, 0, 1);
        BoltRow z = twins(0, 0);
        told(z, "order(), of several the first", z.order(), 2, 0, 1);
        // at p 30 the two others have 15 then: just their break is enough
        BoltRow exact = made(0, 0, v(1, 0, 9, 1, 10), v(1, 0, 13, 1, 15), v(1, 0, 13, 1, 15));
        told(exact, "order(), of equal ones the first", exact.order(), 3, 0, 1, 2);
        told(exact, "peak(), not below their break", exact.peak(), 3, 30, 1);
        BoltRow none = new BoltRow();
        told(none, "order(), none", none.order(), 0);
    }

    private static void when() {
        place = "promise 29";
        BoltRow x = stiff();
        told(x, "when(0, 0)", x.when(0, 0), 0, 0, 1);
        told(x, "when(0, 1)", x.when(0, 1), 0, 3, 1);
        told(x, "when(1, 0)", x.when(1, 0), 0, 15, 1);
        told(x, "when(1, 1)", x.when(1, 1), 0, 13, 1);
        told(x, "when(2, 0)", x.when(2, 0), 0, 20, 1);
        told(x, "when(2, 1)", x.when(2, 1), 0, 15, 1);
        due("when(3, 0)", x.when(3, 0), -1);
        due("when(-1, 0)", x.when(-1, 0), -1);
        due("when(0, 2)", x.when(0, 2), -1);
        due("when(0, -1)", x.when(0, -1), -1);
        x.takes(1, true);
        due("when(0, 1), out", x.when(0, 1), -2);
        due("when(3, 1), out", x.when(3, 1), -1);
    }

    private static void sheds() {
        place = "promise 30";
        BoltRow x = stiff();
        told(x, "sheds(1)", x.sheds(1), 0, 1, 6, 0);
        due("sheds(0), none left", x.sheds(0), -2);
        due("sheds(2)", x.sheds(2), -1);
        due("sheds(-1)", x.sheds(-1), -1);
        BoltRow y = zip();
        told(y, "sheds(0), of equal ones the first", y.sheds(0), 1, 1, 0, 5, 5);
        told(y, "sheds(2), ahead of what comes by it", y.sheds(2), 1, 1, 0, 15, 0);
        due("sheds(1), none left", y.sheds(1), -2);
        BoltRow z = thirds();
        told(z, "sheds(0)", z.sheds(0), 1, 5, 0, 21, 14);
        z.takes(1, true);
        told(z, "sheds(0), one out", z.sheds(0), 2, 1, 0, 0, 7);
        due("sheds(1), out", z.sheds(1), -2);
    }

    private static void replayDue(BoltRow x, String text, int want, long... row) {
        write(x, text);
        x.count(5);
        due("replays() of " + text, x.replays(), want);
        if (want >= 0) {
            rowIs(x, "replays() of " + text, row);
        }
        due("count(6) behind replays()", x.count(6), 0);
    }

    private static void replays() {
        place = "promise 31";
        BoltRow x = zip();
        replayDue(x, "021", 3, 1);
        replayDue(x, "02", 2, 0);
        replayDue(x, "012", 1, 0);
        replayDue(x, "120", 0, 0);
        replayDue(x, "", 0, 0);
        replayDue(x, "3", -1);
        replayDue(x, "03", -2);
        replayDue(x, "022", -3);
        replayDue(x, "02x", -3);
        replayDue(x, "02/", -3);
        replayDue(x, "02:", -3);
        replayDue(x, "121", -3);
        x.takes(2, true);
        replayDue(x, "01", 2, 1);
        replayDue(x, "012", 2, 0);
        replayDue(new BoltRow(), "", 0, 1);
        replayDue(new BoltRow(), "0", -1);
    }

    private static void without() {
        place = "promise 32";
        BoltRow x = stiff();
        told(x, "without(0)", x.without(0), 0, 6, 1);
        told(x, "without(1)", x.without(1), 1, 20, 1);
        due("without(2)", x.without(2), -1);
        due("without(-1)", x.without(-1), -1);
        x.takes(1, true);
        due("without(1), out", x.without(1), -2);
        told(x, "without(0)", x.without(0), 0, 0, 1);
        due("part(0, 5)", x.part(0, 5), 0);
    }

    private static void tunes() {
        place = "promise 33";
        BoltRow x = twins(3, 9);
        told(x, "tunes(1)", x.tunes(1), 3, 40, 1);
        told(x, "tunes(0)", x.tunes(0), 9, 40, 1);
        due("part(1, 1)", x.part(1, 1), 9);
        due("tunes(2)", x.tunes(2), -1);
        due("tunes(-1)", x.tunes(-1), -1);
        x.takes(1, true);
        told(x, "tunes(1), out", x.tunes(1), 0, 20, 1);
        told(x, "tunes(0), of equal ones the least", x.tunes(0), 0, 20, 1);
        x.takes(0, true);
        told(x, "tunes(0), all out", x.tunes(0), 0, 0, 1);
        // f1 less f0 is half of clear 0: 20 and 49/2 is the most, and the other one breaks by it
        BoltRow y = made(1, 1, v(1, 0, 10, 1, 20), v(1, 0, 10, 1, 30));
        told(y, "tunes(0)", y.tunes(0), 9, 89, 2);
    }

    private static void arranges() {
        place = "promise 34";
        // at one end a bolt has three times what it has at the other: 60 and 20 are right
        BoltRow x = made(2, 0, v(1, 0, 10, 1, 20), v(1, 0, 10, 1, 60));
        told(x, "arranges()", x.arranges(), 1, 1, 0, 80, 1);
        due("part(0, 4)", x.part(0, 4), 20);
        x.swaps(0, 1);
        told(x, "arranges()", x.arranges(), 0, 0, 1, 80, 1);
        BoltRow y = zip();
        told(y, "arranges(), of equal ones the least", y.arranges(), 0, 0, 1, 2, 30, 1);
        due("arranges(), none", new BoltRow().arranges(), -1);
        // the one that is out is best between: the pitches that stay are what counts
        BoltRow z = made(2, 0, v(1, 0, 10, 1, 20), v(1, 0, 10, 1, 20), v(1, 0, 10, 1, 20));
        z.pitch(0, 0);
        z.takes(1, true);
        told(z, "arranges(), one out", z.arranges(), 1, 0, 2, 1, 40, 1);
        z.takes(0, true);
        z.takes(2, true);
        told(z, "arranges(), all out", z.arranges(), 0, 0, 1, 2, 0, 1);
        // forces are as 13, 5, 2, 1: only one order has all break at once, at the sum of all breaks
        BoltRow four = made(1, 0, v(1, 0, 7, 1, 8), v(1, 0, 3, 1, 4), v(1, 0, 30, 1, 52), v(1, 0, 19, 1, 20));
        told(four, "arranges()", four.arranges(), 1, 2, 3, 0, 1, 84, 1);
        four = made(1, 0, v(1, 0, 3, 1, 4), v(1, 0, 7, 1, 8), v(1, 0, 19, 1, 20), v(1, 0, 30, 1, 52));
        told(four, "arranges(), the last order", four.arranges(), 1, 3, 2, 1, 0, 84, 1);
        // as 21, 8, 3, 1, 1, since there are no pitches between the last two
        BoltRow all = made(1, 0, v(1, 0, 5, 1, 6), v(1, 0, 1, 1, 2), v(1, 0, 15, 1, 16), v(1, 0, 1, 1, 2), v(1, 0, 30, 1, 42));
        all.pitch(3, 0);
        told(all, "arranges(), five", all.arranges(), 1, 4, 2, 0, 1, 3, 68, 1);
        BoltRow five = made(1, 1, v(1, 0, 1, 1, 2), v(1, 0, 1, 1, 2), v(1, 0, 1, 1, 2), v(1, 0, 1, 1, 2), v(1, 0, 1, 1, 2));
        due("arranges(), five alike", five.arranges(), 0);
        // from the last place to the first forces are as 1, 6/5, 41/25, 301/125, 2286/625; the last bolt breaks at 16
        BoltRow last = made(1, 0, v(5, 0, 15, 5, 16), v(5, 0, 15, 5, 20), v(5, 0, 15, 5, 27), v(5, 0, 15, 5, 40),
            v(5, 0, 15, 5, 60));
        told(last, "arranges(), the last order of five", last.arranges(), 1, 4, 3, 2, 1, 0, 99056, 625);
    }

    private static void fits() {
        place = "promise 35";
        BoltRow x = twins(2, 7);
        told(x, "fits(0)", x.fits(0), 9, 35, 1);
        told(x, "fits(35)", x.fits(35), 9, 35, 1);
        told(x, "fits(36)", x.fits(36), 6, 36, 1);
        told(x, "fits(38)", x.fits(38), 4, 38, 1);
        told(x, "fits(40)", x.fits(40), 2, 40, 1);
        due("fits(41)", x.fits(41), -2);
        BoltRow y = twins(5, 0);
        told(y, "fits(40)", y.fits(40), 0, 40, 1);
        due("fits(300)", x.fits(300), -2);
        due("fits(301)", x.fits(301), -1);
        due("fits(-1)", x.fits(-1), -1);
        due("fits(0), none", new BoltRow().fits(0), -1);
        due("part(1, 1)", x.part(1, 1), 7);
        x.takes(0, true);
        x.takes(1, true);
        told(x, "fits(0), all out", x.fits(0), 9, 0, 1);
        due("fits(1), all out", x.fits(1), -2);
    }

    private static void chance() {
        place = "promise 36";
        BoltRow x = twins(0, 0);
        // draws of seed 1: 8 6 3 3 9 5 8 7 0 6; of seed -3: 1 8 0 3 2 8 7 0 0 1
        told(x, "chance(1, 5, 38)", x.chance(1, 5, 38), 3, 34, 1);
        told(x, "chance(1, 1, 38)", x.chance(1, 1, 38), 1, 38, 1);
        told(x, "chance(1, 2, 39)", x.chance(1, 2, 39), 1, 38, 1);
        told(x, "chance(-3, 5, 34)", x.chance(-3, 5, 34), 3, 33, 1);
        told(x, "chance(1, 5, 0)", x.chance(1, 5, 0), 5, 34, 1);
        told(x, "chance(1, 5, 300)", x.chance(1, 5, 300), 0, 34, 1);
        due("chance(1, 40, 0)", x.chance(1, 40, 0), 40);
        // what the clears are apart takes half as much then; seed 1 ends the fourth time with 8 and 7
        x.plates(1, 1);
        told(x, "chance(1, 4, 40)", x.chance(1, 4, 40), 1, 38, 1);
        told(x, "chance(-3, 1, 37)", x.chance(-3, 1, 37), 0, 73, 2);
        told(x, "chance(-3, 2, 36)", x.chance(-3, 2, 36), 2, 73, 2);
        x.plates(0, 0);
        due("chance(1, 41, 0)", x.chance(1, 41, 0), -1);
        due("chance(1, 0, 0)", x.chance(1, 0, 0), -1);
        due("chance(1, 1, 301)", x.chance(1, 1, 301), -1);
        due("chance(1, 1, -1)", x.chance(1, 1, -1), -1);
        due("chance(1, 1, 0), none", new BoltRow().chance(1, 1, 0), -1);
        due("part(0, 1)", x.part(0, 1), 0);
        x.bolt(1, 0, 10, 1, 20);
        x.takes(1, true);
        told(x, "chance(1, 3, 35), out ones draw, too", x.chance(1, 3, 35), 2, 32, 1);
        x.takes(0, true);
        x.takes(2, true);
        told(x, "chance(1, 3, 0), all out", x.chance(1, 3, 0), 3, 0, 1);
    }

    private static void count() {
        place = "promise 37";
        BoltRow x = stiff();
        x.plates(2, 1);
        x.takes(0, true);
        x.sign(0);
        x.events();
        long[] want = {2, 1, 6, 3, 3, 3, 4, 2, 1};
        for (int k = 0; k < want.length; k++) {
            due("count(" + k + ")", x.count(k), want[k]);
        }
        due("count(9)", x.count(9), -1);
        due("count(-1)", x.count(-1), -1);
        x.takes(0, false);
        due("count(2)", x.count(2), 26);
        due("count(3)", x.count(3), 0);
        due("count(4)", x.count(4), 6);
        x.takes(0, true);
        x.takes(1, true);
        due("count(3), all out", x.count(3), -1);
        due("count(2), all out", x.count(2), 0);
    }

    private static void row() {
        place = "promise 38";
        BoltRow x = stiff();
        due("row(0) throws", rowThrows(x, 0), true);
        x.force(14, 0);
        due("row(0)", x.row(0), 17);
        due("row(1)", x.row(1), 2);
        due("row(2) throws", rowThrows(x, 2), true);
        due("row(-1) throws", rowThrows(x, -1), true);
        x.arranges();
        due("row(3)", x.row(3), 1);
        due("row(4) throws", rowThrows(x, 4), true);
        x.order();
        due("row(2) throws", rowThrows(x, 2), true);
    }

    /** Refused calls, answers below 0 and calls that tell nothing leave the row as it is. */
    private static void rowStays() {
        place = "terms 2";
        BoltRow x = stiff();
        x.force(14, 0);
        x.force(20, 0);
        x.force(-1, 0);
        x.slip(20, 0);
        x.bears(20, 0);
        x.stretch(20);
        x.state(14, 1);
        x.idle(301);
        x.hardest(20);
        x.margin(20);
        x.work(20);
        x.set(15, 1);
        x.falls(5, 6, 0);
        x.opens(0);
        x.event(9);
        x.when(3, 0);
        x.sheds(0);
        write(x, "09");
        x.replays();
        write(x, "09");
        x.joint();
        x.without(3);
        x.tunes(-1);
        x.fits(300);
        x.chance(1, 0, 0);
        x.count(4);
        x.part(0, 0);
        x.bolt(1, 0, 1, 1, 2);
        x.plates(1, 1);
        x.pitch(0, 2);
        x.alters(0, 1, 1, 1, 1, 2);
        x.takes(0, true);
        x.swaps(0, 1);
        write(x, "1110100120");
        x.joint();
        x.clears();
        x.arranges();
        rowIs(x, "calls that do not tell", 17, 2);
    }

    /** What is asked behind a change is answered for what is built then. */
    private static void eachChangeCounts() {
        place = "promises 2 to 11";
        BoltRow x = new BoltRow();
        told(x, "peak()", x.peak(), 0, 0, 1);
        x.bolt(1, 0, 10, 1, 20);
        told(x, "peak() behind bolt()", x.peak(), 1, 20, 1);
        x.bolt(1, 0, 10, 1, 20);
        told(x, "peak() behind bolt()", x.peak(), 2, 40, 1);
        // f0 less f1 is w times f1, less w times f0
        x.plates(1, 0);
        told(x, "peak() behind plates()", x.peak(), 2, 30, 1);
        x.pitch(0, 2);
        told(x, "peak() behind pitch()", x.peak(), 2, 80, 3);
        x.alters(1, 1, 0, 10, 1, 60);
        told(x, "peak() behind alters()", x.peak(), 1, 60, 1);
        x.swaps(0, 1);
        told(x, "peak() behind swaps()", x.peak(), 2, 80, 1);
        x.takes(0, true);
        told(x, "peak() behind takes()", x.peak(), 1, 20, 1);
        write(x, "0010010102");
        x.joint();
        told(x, "peak() behind joint()", x.peak(), 1, 2, 1);
        x.clears();
        told(x, "peak() behind clears()", x.peak(), 0, 0, 1);
    }

    /** Stiff plates and five bolts alike: each has a fifth of what all have. */
    private static void fiveBolts() {
        place = "promises 13 to 36";
        int[] b = v(1, 2, 10, 2, 20);
        BoltRow x = made(0, 0, b, b, b, b, b);
        for (int i = 0; i < 5; i++) {
            told(x, "force(52, i)", x.force(52, i), 0, 52, 5);
            told(x, "slip(52, i)", x.slip(52, i), 0, 64, 5);
            told(x, "set(52, i)", x.set(52, i), 0, 12, 5);
            told(x, "falls(52, 26, i)", x.falls(52, 26, i), 0, 26, 5, 38, 5);
            due("state(52, i)", x.state(52, i), 2);
            told(x, "when(2, i)", x.when(2, i), 0, 100, 1);
            told(x, "without(i)", x.without(i), 0, 80, 1);
            told(x, "tunes(i)", x.tunes(i), 2, 100, 1);
        }
        told(x, "bears(52, 3)", x.bears(52, 3), 0, 52, 5, 208, 5);
        told(x, "stretch(52)", x.stretch(52), 0, 64, 5);
        told(x, "idle(0)", x.idle(0), 31, 0);
        told(x, "hardest(52)", x.hardest(52), 0, 200, 5);
        told(x, "margin(52)", x.margin(52), 0, 48, 1, 2, 0);
        told(x, "work(52)", x.work(52), 0, 2908, 5, 0, 1);
        told(x, "opens(52)", x.opens(52), 0, 0, 1);
        told(x, "events()", x.events(), 15, 5, 5, 5);
        told(x, "peak()", x.peak(), 5, 100, 1);
        told(x, "order()", x.order(), 5, 0, 1, 2, 3, 4);
        told(x, "sheds(0)", x.sheds(0), 1, 1, 0, 5, 5, 5, 5);
        told(x, "sheds(3)", x.sheds(3), 4, 1, 0, 0, 0, 0, 50);
        told(x, "arranges()", x.arranges(), 0, 0, 1, 2, 3, 4, 100, 1);
        told(x, "fits(100)", x.fits(100), 9, 100, 1);
        due("chance(1, 1, 101)", x.chance(1, 1, 101), 0);
    }

    private static void asksChangeNothing() {
        place = "terms 2";
        BoltRow x = made(2, 1, v(1, 4, 5, 6, 20), v(2, 3, 9, 4, 30), v(3, 1, 7, 5, 25));
        x.takes(2, true);
        x.pitch(1, 2);
        x.peak();
        long over = x.row(0);
        long under = x.row(1);
        x.sign(0x30313200);
        x.force(9, 0);
        x.slip(9, 0);
        x.falls(20, 3, 0);
        x.opens(20);
        x.sheds(0);
        x.without(0);
        x.tunes(1);
        x.arranges();
        x.fits(0);
        x.chance(5, 7, 10);
        int[][] want = {v(1, 4, 5, 6, 20, 0, 1), v(2, 3, 9, 4, 30, 0, 2), v(3, 1, 7, 5, 25, 1, 0)};
        for (int i = 0; i < 3; i++) {
            for (int what = 0; what < 7; what++) {
                due("part(" + i + ", " + what + ")", x.part(i, what), want[i][what]);
            }
        }
        due("count(6)", x.count(6), 4);
        told(x, "peak()", x.peak(), x.peak(), over, under);
    }

    /**
     * Bolts, pitches and plates all unlike. At p 11 forces are 6, 1, 4, slips 13, 5, 4: 8 is twice (twice 5 less 6),
     * 1 is twice 4 less 7. Bolt 0 is 1 above its yield then, so its set is 1.
     */
    private static void unlike() {
        place = "promises 13 to 29";
        BoltRow x = made(2, 1, v(2, 0, 5, 3, 20), v(3, 2, 10, 4, 20), v(1, 0, 10, 2, 20));
        x.pitch(0, 2);
        long[][] want = {{6, 13}, {1, 5}, {4, 4}};
        for (int i = 0; i < 3; i++) {
            told(x, "force(11, " + i + ")", x.force(11, i), 0, want[i][0], 1);
            told(x, "slip(11, " + i + ")", x.slip(11, i), 0, want[i][1], 1);
        }
        told(x, "bears(11, 0)", x.bears(11, 0), 0, 5, 1, 6, 1);
        told(x, "bears(11, 1)", x.bears(11, 1), 0, 4, 1, 7, 1);
        told(x, "stretch(11)", x.stretch(11), 0, 32, 1);
        told(x, "hardest(11)", x.hardest(11), 0, 545, 3);
        told(x, "work(11)", x.work(11), 0, 102, 1, 253, 1);
        told(x, "set(11, 0)", x.set(11, 0), 0, 1, 1);
        told(x, "set(11, 1)", x.set(11, 1), 0, 2, 1);
        told(x, "falls(11, 5, 0)", x.falls(11, 5, 0), 0, 93, 34, 110, 17);
        told(x, "falls(11, 5, 1)", x.falls(11, 5, 1), 0, 5, 17, 49, 17);
        told(x, "falls(11, 5, 2)", x.falls(11, 5, 2), 0, 67, 34, 67, 34);
        told(x, "opens(11)", x.opens(11), 1, 5, 2);
        told(x, "falls(11, 2, 0)", x.falls(11, 2, 0), 0, 13, 12, 19, 6);
        told(x, "falls(11, 2, 1)", x.falls(11, 2, 1), 0, 0, 1, 5, 3);
        told(x, "falls(11, 2, 2)", x.falls(11, 2, 2), 0, 11, 12, 11, 12);
        told(x, "when(0, 1)", x.when(0, 1), 0, 3, 1);
        told(x, "when(1, 0)", x.when(1, 0), 0, 332, 37);
        told(x, "margin(3)", x.margin(3), 0, 221, 37, 1, 0);
    }
}
