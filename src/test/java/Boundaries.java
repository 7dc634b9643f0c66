import java.nio.file.Files;
import java.nio.file.Path;

/**
 * Each sentence of the document that names a boundary case by a test of its own: what is just within, what is just
 * beyond, what is empty, full, the same, or refused. A sentence is told in the document's own words, and looked up there.
 */
public final class Boundaries extends Checks {
    private static final int LEAST = Integer.MIN_VALUE;
    private static final int MOST = Integer.MAX_VALUE;
    private static final String ONE = "10100120";
    private static final String FIVE = "22" + ONE + "/0" + ONE + "/1" + ONE + "/2" + ONE + "/2" + "59300960";

    private static String document;
    private static int sentences = 0;
    private static int checkedBefore = 0;

    /** A call that asks something at a load. */
    private interface Ask {
        int at(BoltRow x, int p);
    }

    /** A call that asks something of a bolt at a load. */
    private interface AskOf {
        int at(BoltRow x, int p, int i);
    }

    /** Any call, its answer as a number. */
    private interface Call {
        long on(BoltRow x);
    }

    public static void main(String[] args) throws Exception {
        Path shared = Path.of("../shared/DOC.md");
        document = Files.exists(shared) ? Files.readString(shared).replaceAll("\\s+", " ") : null;
        life();
        numbersOfBolts();
        plateNumbers();
        statesAtLimits();
        breaking();
        order();
        wholeLoads();
        falling();
        rowAndRefusals();
        building();
        textCalls();
        jointText();
        asking();
        askingMore();
        loadFalls();
        eventCalls();
        sheddings();
        replayed();
        wouldBe();
        arrangements();
        draws();
        countsAndRow();
        closeSentence();
        System.out.println("Boundaries: " + sentences + " sentences");
        finish("Boundaries");
    }

    // ---- sentences

    /** What is checked from here on is this sentence, which stands under this heading of the document. */
    private static void says(String heading, String sentence) {
        closeSentence();
        sentences++;
        place = heading + ", \"" + sentence + "\"";
        // The class can be tested where the document is not at hand, too.
        if (document != null) {
            due("its standing in the document", section(heading).contains(sentence), true);
        }
        checkedBefore = checked;
    }

    private static String section(String heading) {
        int from = document.indexOf("## " + heading + (heading.startsWith("Promise") ? ":" : " "));
        if (from < 0) {
            return "";
        }
        int to = document.indexOf(" ## ", from);
        return document.substring(from, to < 0 ? document.length() : to);
    }

    private static void closeSentence() {
        if (sentences > 0 && checked == checkedBefore) {
            due("having a check", false, true);
        }
    }

    // ---- more joints, and what is asked of all

    /** The peak is 75/2, both break there. */
    private static BoltRow late() {
        return made(1, 1, v(1, 0, 10, 1, 20), v(1, 5, 10, 1, 20));
    }

    /** Each has a fifth of the load; the peak is 300, as much as there can be. */
    private static BoltRow full() {
        int[] b = v(1, 0, 1, 1, 60);
        return made(0, 0, b, b, b, b, b);
    }

    private static BoltRow allOut() {
        BoltRow x = stiff();
        x.takes(0, true);
        x.takes(1, true);
        return x;
    }

    /** All that can be asked without a change, the row too. */
    private static String all(BoltRow x) {
        StringBuilder s = new StringBuilder();
        for (int what = 0; what <= 8; what++) {
            s.append(x.count(what)).append(' ');
        }
        for (int i = 0; i < x.count(0); i++) {
            for (int what = 0; what <= 6; what++) {
                s.append(x.part(i, what)).append(' ');
            }
        }
        for (int i = 0; i < x.count(5); i++) {
            s.append(x.row(i)).append(' ');
        }
        return s.toString();
    }

    /** The call answers this, and neither what is built nor THE TEXT nor the ROW is another one then. */
    private static void stays(BoltRow x, String call, Call made, long want) {
        x.end(0);
        x.sign(0x31300000);
        x.end(2);
        x.events();
        String before = all(x);
        due(call, made.on(x), want);
        due(call + " leaves all as it was", all(x).equals(before), true);
        int digits = x.count(0) > 1 ? 0 : -1;
        due("THE TEXT behind " + call, Math.min(x.replays(), 0), digits);
    }

    /** From the first load on that is not below the peak the answer is -2, and the ROW stays. */
    private static void asForce(String name, Ask ask) {
        peakEdge(name, stiff(), ask, 20);
        peakEdge(name, late(), ask, 38);
        peakEdge(name, full(), ask, 300);
        peakEdge(name, allOut(), ask, 0);
    }

    private static void peakEdge(String name, BoltRow x, Ask ask, int first) {
        if (first > 0) {
            due(name + " at " + (first - 1), ask.at(x, first - 1) >= 0, true);
        }
        for (int p : new int[] {first, Math.min(300, first + 1), 299, 300}) {
            if (p >= first) {
                int at = p;
                stays(x, name + " at " + p, y -> ask.at(y, at), -2);
            }
        }
    }

    /** No load below 0 or above 300; that comes ahead of the peak. */
    private static void noLoad(String name, Ask ask) {
        for (int p : new int[] {-1, 301, LEAST, MOST}) {
            stays(stiff(), name + " at " + p, y -> ask.at(y, p), -1);
            stays(allOut(), name + " at " + p + ", all out", y -> ask.at(y, p), -1);
        }
    }

    /** Refused whatever the load is: also where it is not below the peak, and where it is none. */
    private static void noBolts(String name, Ask ask) {
        for (int p : new int[] {0, 1, 300, 301, -1}) {
            stays(new BoltRow(), name + " at " + p + ", no bolts", y -> ask.at(y, p), -1);
        }
        BoltRow x = stiff();
        x.clears();
        due(name + " at 0, bolts gone", ask.at(x, 0), -1);
        x.bolt(1, 0, 10, 1, 20);
        due(name + " at 1, one bolt", ask.at(x, 1) >= 0, true);
    }

    private static void noBolt(String name, AskOf ask, int firstWrong) {
        for (int i : new int[] {-1, firstWrong, 5, LEAST, MOST}) {
            for (int p : new int[] {0, 5, 20, 300, 301}) {
                stays(stiff(), name + " of " + i + " at " + p, y -> ask.at(y, p, i), -1);
            }
        }
        due(name + " of 0, no bolts", ask.at(new BoltRow(), 0, 0), -1);
    }

    private static void eventIs(BoltRow x, int k, int kind, long... row) {
        told(x, "event(" + k + ")", x.event(k), kind, row);
    }

    // ---- what it is, terms 1

    private static void life() {
        says("What it is", "An object is used for at most 512 calls after it has been made");
        BoltRow x = new BoltRow();
        for (int k = 0; k < 72; k++) {
            x.plates(k % 3, 1);
            x.bolt(5, 9, 30, 9, 60);
            x.bolt(1, 0, 1, 1, 2);
            x.sign(k);
            x.end(0);
            x.arranges();
            x.clears();
        }
        due("call 505, plates(0, 0)", x.plates(0, 0), 21);
        due("call 506, bolt", x.bolt(1, 0, 10, 2, 20), 1);
        due("call 507, bolt", x.bolt(1, 3, 5, 1, 6), 2);
        due("call 508, sign", x.sign(0x31300000), 4);
        due("call 509, end(2)", x.end(2), true);
        due("call 510, peak()", x.peak(), 1);
        due("call 511, replays()", x.replays(), 2);
        due("call 512, row(0)", x.row(0), 1);
    }

    /** These five numbers are a bolt's, however it comes. */
    private static void fair(int... b) {
        String five = "(" + b[0] + ", " + b[1] + ", " + b[2] + ", " + b[3] + ", " + b[4] + ")";
        BoltRow x = new BoltRow();
        due("bolt" + five, x.bolt(b[0], b[1], b[2], b[3], b[4]), 1);
        BoltRow y = made(0, 0, v(4, 7, 17, 8, 47));
        due("alters" + five, y.alters(0, b[0], b[1], b[2], b[3], b[4]) > 0, true);
        BoltRow z = new BoltRow();
        write(z, "00" + b[0] + b[1] + two(b[2]) + two(b[3]) + two(b[4]));
        due("joint() of " + five, z.joint(), 1);
        for (int what = 0; what < 5; what++) {
            due("part(0, " + what + ") behind bolt" + five, x.part(0, what), b[what]);
            due("part(0, " + what + ") behind alters" + five, y.part(0, what), b[what]);
            due("part(0, " + what + ") behind joint() of " + five, z.part(0, what), b[what]);
        }
    }

    /** These five numbers are no bolt's; at: the sign of a text that can't stand there, below 0 if none can be written. */
    private static void unfair(int at, int... b) {
        String five = "(" + b[0] + ", " + b[1] + ", " + b[2] + ", " + b[3] + ", " + b[4] + ")";
        stays(stiff(), "bolt" + five, x -> x.bolt(b[0], b[1], b[2], b[3], b[4]), -1);
        stays(stiff(), "alters" + five, x -> x.alters(1, b[0], b[1], b[2], b[3], b[4]), -1);
        if (at >= 0) {
            BoltRow z = stiff();
            write(z, "00" + b[0] + b[1] + two(b[2]) + two(b[3]) + two(b[4]));
            due("joint() of " + five, z.joint(), -1 - at);
            due("count(0) behind joint() of " + five, z.count(0), 2);
        }
    }

    private static String two(int n) {
        return n < 10 ? "0" + n : "" + n;
    }

    private static void numbersOfBolts() {
        says("Terms", "BOLTS are numbered 0 .. n - 1 from where the load pulls (at most 5)");
        BoltRow x = new BoltRow();
        for (int i = 0; i < 5; i++) {
            due("part(" + i + ", 1) throws ahead", partThrows(x, i, 1), true);
            due("bolt number " + i, x.bolt(1, i, 10, 1, 20), i + 1);
            due("part(" + i + ", 1)", x.part(i, 1), i);
        }
        due("bolt number 5", x.bolt(1, 5, 10, 1, 20), -2);
        due("part(5, 1) throws", partThrows(x, 5, 1), true);
        due("part(-1, 1) throws", partThrows(x, -1, 1), true);

        says("Terms", "GIVE g 1 .. 5");
        fair(1, 3, 10, 4, 20);
        fair(5, 3, 10, 5, 20);
        unfair(2, 0, 3, 10, 4, 20);
        unfair(2, 6, 3, 10, 6, 20);
        unfair(-1, -1, 3, 10, 4, 20);
        unfair(-1, LEAST, 3, 10, 4, 20);
        unfair(-1, MOST, 3, 10, MOST, 20);

        says("Terms", "CLEAR c 0 .. 9");
        fair(2, 0, 10, 4, 20);
        fair(2, 9, 10, 4, 20);
        unfair(-1, 2, -1, 10, 4, 20);
        unfair(-1, 2, 10, 10, 4, 20);
        unfair(-1, 2, LEAST, 10, 4, 20);
        unfair(-1, 2, MOST, 10, 4, 20);

        says("Terms", "YIELD y 1 .. 30");
        fair(2, 3, 1, 4, 20);
        fair(2, 3, 30, 4, 60);
        unfair(5, 2, 3, 0, 4, 20);
        unfair(5, 2, 3, 31, 4, 60);
        unfair(-1, 2, 3, -1, 4, 20);
        unfair(-1, 2, 3, LEAST, 4, 20);
        // one more than that is the least int there is
        unfair(-1, 2, 3, MOST, 4, 20);

        says("Terms", "SOFT s (its own GIVE .. 9)");
        fair(3, 3, 10, 3, 20);
        fair(3, 3, 10, 9, 20);
        fair(5, 3, 10, 5, 20);
        fair(1, 3, 10, 1, 20);
        unfair(7, 3, 3, 10, 2, 20);
        unfair(7, 5, 3, 10, 4, 20);
        unfair(7, 1, 3, 10, 0, 20);
        unfair(7, 3, 3, 10, 10, 20);
        unfair(-1, 3, 3, 10, LEAST, 20);
        unfair(-1, 3, 3, 10, MOST, 20);

        says("Terms", "BREAK u (YIELD and 1 .. 60)");
        fair(2, 3, 10, 4, 11);
        fair(2, 3, 10, 4, 60);
        fair(2, 3, 1, 4, 2);
        fair(2, 3, 30, 4, 31);
        unfair(9, 2, 3, 10, 4, 10);
        unfair(9, 2, 3, 10, 4, 61);
        unfair(9, 2, 3, 1, 4, 1);
        unfair(9, 2, 3, 30, 4, 30);
        unfair(9, 2, 3, 30, 4, 0);
        unfair(-1, 2, 3, 10, 4, LEAST);
        unfair(-1, 2, 3, 10, 4, MOST);

        says("Terms", "A BOLT is sound or OUT (taken out by hand; at first it is sound)");
        BoltRow y = new BoltRow();
        y.bolt(1, 0, 10, 1, 20);
        due("part(0, 5)", y.part(0, 5), 0);
        y.takes(0, true);
        due("part(0, 5)", y.part(0, 5), 1);
        y.bolt(1, 0, 10, 1, 20);
        due("part(1, 5), one behind it", y.part(1, 5), 0);
        y.clears();
        y.bolt(1, 0, 10, 1, 20);
        due("part(0, 5), in the place of one that was out", y.part(0, 5), 0);
    }

    private static void plateNumbers() {
        says("Terms", "The upper plate gives A 0 .. 2, the lower one B 0 .. 2 a PITCH (1 and 1 at first)");
        BoltRow x = new BoltRow();
        due("count(7)", x.count(7), 1);
        due("count(8)", x.count(8), 1);
        int were = 11;
        for (int a = 0; a <= 2; a++) {
            for (int b = 0; b <= 2; b++) {
                int want = were == 10 * a + b ? -2 : were;
                due("plates(" + a + ", " + b + ")", x.plates(a, b), want);
                due("count(7)", x.count(7), a);
                due("count(8)", x.count(8), b);
                were = 10 * a + b;
            }
        }

        says("Terms", "between BOLTS i and i + 1 there are w PITCHES, 0 .. 2 (1, as a BOLT comes behind another one)");
        BoltRow y = twins(0, 0);
        due("part(0, 6)", y.part(0, 6), 1);
        due("pitch(0, 0)", y.pitch(0, 0), 1);
        due("part(0, 6)", y.part(0, 6), 0);
        due("pitch(0, 2)", y.pitch(0, 2), 0);
        due("part(0, 6)", y.part(0, 6), 2);
        y.bolt(1, 0, 10, 1, 20);
        due("part(0, 6) behind one more bolt", y.part(0, 6), 2);
        due("part(1, 6) behind one more bolt", y.part(1, 6), 1);
        y.clears();
        y.bolt(1, 0, 10, 1, 20);
        y.bolt(1, 0, 10, 1, 20);
        due("part(0, 6) of bolts made anew", y.part(0, 6), 1);
    }

    private static void statesAtLimits() {
        says("Terms", "FORCE 0, if its SLIP is not above CLEAR");
        BoltRow x = stiff();
        told(x, "slip(2, 1), below its clear", x.slip(2, 1), 0, 2, 1);
        told(x, "force(2, 1)", x.force(2, 1), 0, 0, 1);
        told(x, "slip(3, 1), just its clear", x.slip(3, 1), 0, 3, 1);
        told(x, "force(3, 1)", x.force(3, 1), 0, 0, 1);
        told(x, "slip(4, 1), above it", x.slip(4, 1), 0, 7, 2);
        told(x, "force(4, 1)", x.force(4, 1), 0, 1, 2);

        says("Terms", "else SLIP is CLEAR and GIVE times FORCE, as long as FORCE is not above YIELD");
        BoltRow alone = made(1, 1, v(2, 3, 10, 4, 20));
        told(alone, "slip(1, 0)", alone.slip(1, 0), 0, 5, 1);
        told(alone, "force(1, 0)", alone.force(1, 0), 0, 1, 1);
        told(alone, "slip(10, 0), just at its yield", alone.slip(10, 0), 0, 23, 1);
        due("state(10, 0)", alone.state(10, 0), 1);

        says("Terms", "above that SLIP is CLEAR and GIVE times YIELD and SOFT times what FORCE is above YIELD");
        told(alone, "slip(11, 0)", alone.slip(11, 0), 0, 27, 1);
        told(alone, "slip(19, 0)", alone.slip(19, 0), 0, 59, 1);
        due("state(11, 0)", alone.state(11, 0), 2);

        says("Terms", "One that is OUT or BROKEN has FORCE 0, whatever its SLIP.");
        told(x, "slip(16, 1), broken", x.slip(16, 1), 0, 22, 1);
        told(x, "force(16, 1), broken", x.force(16, 1), 0, 0, 1);
        x.takes(1, true);
        told(x, "slip(10, 1), out", x.slip(10, 1), 0, 10, 1);
        told(x, "force(10, 1), out", x.force(10, 1), 0, 0, 1);
        told(x, "force(10, 0)", x.force(10, 0), 0, 10, 1);

        says("Terms", "At p 0 all FORCES are 0, all SLIPS the least CLEAR of those that are neither.");
        BoltRow y = made(2, 1, v(1, 5, 10, 1, 20), v(1, 2, 10, 1, 20), v(1, 3, 10, 1, 20), v(1, 3, 10, 1, 20));
        y.takes(1, true);
        for (int i = 0; i < 4; i++) {
            told(y, "force(0, " + i + ")", y.force(0, i), 0, 0, 1);
            told(y, "slip(0, " + i + ")", y.slip(0, i), 0, 3, 1);
        }
    }

    private static void breaking() {
        says("Terms", "At the first p at which the FORCE of a BOLT is its BREAK it is BROKEN (of several the first)");
        BoltRow x = stiff();
        due("state(14, 1)", x.state(14, 1), 2);
        due("state(15, 1)", x.state(15, 1), 3);
        BoltRow y = made(0, 0, v(1, 0, 30, 1, 60), v(1, 0, 9, 1, 10), v(1, 0, 9, 1, 10));
        told(y, "order()", y.order(), 3, 1, 2, 0);
        told(y, "when(2, 1)", y.when(2, 1), 0, 30, 1);
        told(y, "when(2, 2)", y.when(2, 2), 0, 30, 1);

        says("Terms", "LOAD GROWS from 0 on, none BROKEN at first.");
        told(x, "idle(0)", x.idle(0), 3, 0);
        due("state(0, 1)", x.state(0, 1), 0);
        eventIs(x, 0, 0, 0, 0, 1);

        says("Terms", "all others have the state without it at once, at the same p");
        told(x, "force(15, 0)", x.force(15, 0), 0, 15, 1);
        told(x, "slip(15, 0)", x.slip(15, 0), 0, 20, 1);

        says("Terms", "If there are some then whose FORCE is not below their BREAK");
        BoltRow just = made(0, 0, v(1, 0, 9, 1, 10), v(1, 0, 13, 1, 15), v(1, 0, 13, 1, 15));
        told(just, "peak(), forces are just breaks", just.peak(), 3, 30, 1);
        BoltRow below = made(0, 0, v(1, 0, 9, 1, 10), v(1, 0, 13, 1, 16), v(1, 0, 13, 1, 16));
        told(below, "peak(), forces are below breaks", below.peak(), 2, 32, 1);
        due("state(30, 0)", below.state(30, 0), 3);
        due("state(30, 1)", below.state(30, 1), 2);

        says("Terms", "the one whose FORCE by its BREAK is the greatest (of equal ones the first) is BROKEN next");
        // at p 25 the first one breaks; the others have 50/3 and 25/3 then
        BoltRow less = made(0, 0, v(1, 0, 9, 1, 10), v(1, 0, 15, 1, 16), v(2, 0, 5, 2, 6));
        told(less, "order(), 25/24 and 25/18", less.order(), 3, 0, 2, 1);
        BoltRow same = made(0, 0, v(1, 0, 9, 1, 10), v(1, 0, 13, 1, 14), v(2, 0, 6, 2, 7));
        told(same, "order(), equal ones", same.order(), 3, 0, 1, 2);
        same.swaps(1, 2);
        told(same, "order(), equal ones the other way round", same.order(), 3, 0, 1, 2);
        same.swaps(0, 2);
        told(same, "order(), bolt 0 is one of them", same.order(), 3, 2, 0, 1);
        less.swaps(0, 1);
        told(less, "order(), bolt 0 is not the worst", less.order(), 3, 1, 2, 0);
        less.swaps(0, 2);
        told(less, "order(), bolt 0 is the worst", less.order(), 3, 1, 0, 2);

        says("Terms", "PEAK: the p at which none is left (0 if all are OUT)");
        told(just, "peak()", just.peak(), 3, 30, 1);
        due("state(30, 2)", just.state(30, 2), 3);
        due("state(29, 2)", just.state(29, 2), 1);
        BoltRow none = allOut();
        told(none, "peak(), all out", none.peak(), 0, 0, 1);
    }

    private static void order() {
        says("Terms", "kind 0: from this p on the FORCE of a BOLT is above 0; 1: from this p on it is above YIELD; 2: it is BROKEN");
        BoltRow x = stiff();
        told(x, "when(0, 1)", x.when(0, 1), 0, 3, 1);
        due("state(3, 1)", x.state(3, 1), 0);
        due("state(4, 1)", x.state(4, 1), 1);
        told(x, "when(1, 1)", x.when(1, 1), 0, 13, 1);
        due("state(13, 1)", x.state(13, 1), 1);
        due("state(14, 1)", x.state(14, 1), 2);
        told(x, "when(2, 1)", x.when(2, 1), 0, 15, 1);
        due("state(15, 1)", x.state(15, 1), 3);

        says("Terms", "Of one p, as long as none is BROKEN: kind 0 by BOLTS, then kind 1 by BOLTS, then the one that is BROKEN");
        // all slips are one: at 9, p 22, bolts 2 and 4 begin, 1 and 3 yield, 0 breaks
        BoltRow y = made(0, 0, v(1, 0, 7, 1, 9), v(1, 0, 9, 1, 60), v(1, 9, 10, 1, 20), v(2, 1, 4, 2, 60), v(1, 9, 10, 1, 20));
        eventIs(y, 2, 0, 3, 2, 1);
        eventIs(y, 3, 1, 0, 17, 1);
        eventIs(y, 4, 0, 2, 22, 1);
        eventIs(y, 5, 0, 4, 22, 1);
        eventIs(y, 6, 1, 1, 22, 1);
        eventIs(y, 7, 1, 3, 22, 1);
        eventIs(y, 8, 2, 0, 22, 1);
        told(y, "events()", y.events(), 15, 5, 5, 5);

        says("Terms", "behind that those of kind 0, then those of kind 1, of which the FORCE is above 0, above YIELD by it"
            + " and was not (by BOLTS, each)");
        // bolt 0 breaks at slip 8, p 20: that makes the slip 76/7
        BoltRow z = made(0, 0, v(1, 0, 7, 1, 8), v(1, 0, 9, 1, 60), v(1, 9, 10, 1, 20), v(2, 0, 5, 2, 60), v(1, 9, 10, 1, 20));
        eventIs(z, 3, 1, 0, 35, 2);
        eventIs(z, 4, 2, 0, 20, 1);
        eventIs(z, 5, 0, 2, 20, 1);
        eventIs(z, 6, 0, 4, 20, 1);
        eventIs(z, 7, 1, 1, 20, 1);
        eventIs(z, 8, 1, 3, 20, 1);
        told(z, "events()", z.events(), 15, 5, 5, 5);

        says("Terms", "then the next one that is BROKEN, or all as it goes on");
        // behind the first break bolt 1 has just its break, bolt 2 just its yield
        BoltRow next = made(0, 0, v(1, 0, 9, 1, 10), v(1, 0, 13, 1, 15), v(1, 0, 15, 1, 40));
        eventIs(next, 4, 2, 0, 30, 1);
        eventIs(next, 5, 1, 1, 30, 1);
        eventIs(next, 6, 2, 1, 30, 1);
        eventIs(next, 7, 1, 2, 30, 1);
        eventIs(next, 8, 2, 2, 40, 1);
        // behind it the slip is 7: bolt 3 bears by it, bolt 1 is just touched, so it begins as load goes on
        BoltRow on = made(0, 0, v(1, 0, 3, 1, 4), v(1, 7, 10, 1, 20), v(1, 0, 20, 1, 40), v(1, 6, 10, 1, 20));
        eventIs(on, 3, 2, 0, 8, 1);
        eventIs(on, 4, 0, 3, 8, 1);
        eventIs(on, 5, 0, 1, 8, 1);
        told(on, "slip(8, 1)", on.slip(8, 1), 0, 7, 1);
        due("state(8, 1)", on.state(8, 1), 0);
        // bolt 2 yields by it, bolt 0 is just at its yield, so it yields as load goes on
        BoltRow later = made(0, 0, v(2, 0, 4, 2, 7), v(1, 1, 1, 2, 3), v(1, 1, 6, 1, 12));
        eventIs(later, 4, 2, 1, 11, 1);
        eventIs(later, 5, 1, 2, 11, 1);
        eventIs(later, 6, 1, 0, 11, 1);

        says("Terms", "(At p 0 all of the least CLEAR begin, by BOLTS.)");
        BoltRow s = made(1, 1, v(1, 5, 10, 1, 20), v(1, 3, 10, 1, 20), v(1, 0, 10, 1, 20), v(1, 3, 10, 1, 20), v(1, 4, 10, 1, 20));
        s.takes(2, true);
        eventIs(s, 0, 0, 1, 0, 1);
        eventIs(s, 1, 0, 3, 0, 1);
        due("event(2)", s.event(2), 0);
        due("its load is above 0", s.row(1) > 0, true);
    }

    private static void wholeLoads() {
        says("Terms", "AT a whole LOAD p 0 .. 300: the state behind all EVENTS of p and less.");
        BoltRow x = stiff();
        due("state(0, 0)", x.state(0, 0), 0);
        due("state(15, 1), of the very load of its break", x.state(15, 1), 3);
        told(x, "force(15, 0)", x.force(15, 0), 0, 15, 1);
        BoltRow y = full();
        told(y, "force(299, 4)", y.force(299, 4), 0, 299, 5);
        due("state(299, 4)", y.state(299, 4), 2);
        due("state(300, 4)", y.state(300, 4), 3);
        due("state(301, 4)", y.state(301, 4), -1);
        due("state(-1, 4)", y.state(-1, 4), -1);
        told(y, "peak()", y.peak(), 5, 300, 1);
        // an event between two whole loads counts from the next one on
        BoltRow z = late();
        due("state(2, 1)", z.state(2, 1), 0);
        told(z, "when(0, 1)", z.when(0, 1), 0, 5, 2);
        due("state(3, 1)", z.state(3, 1), 1);
        due("state(37, 1)", z.state(37, 1), 2);
        due("state(38, 1)", z.state(38, 1), 3);
    }

    private static void falling() {
        says("Terms", "LOAD FALLS from a whole p below PEAK, come to as told, to a whole q 0 .. p.");
        BoltRow x = worn();
        told(x, "falls(28, 28, 0)", x.falls(28, 28, 0), 0, 12, 1, 16, 1);
        told(x, "falls(28, 0, 0)", x.falls(28, 0, 0), 0, 0, 1, 0, 1);
        due("falls(28, 29, 0)", x.falls(28, 29, 0), -1);
        due("falls(28, -1, 0)", x.falls(28, -1, 0), -1);
        told(x, "falls(0, 0, 1)", x.falls(0, 0, 1), 0, 0, 1, 0, 1);
        BoltRow y = full();
        told(y, "falls(299, 299, 0)", y.falls(299, 299, 0), 0, 299, 5, 299, 5);
        due("falls(300, 0, 0)", y.falls(300, 0, 0), -2);

        says("Terms", "SET of a BOLT that is neither OUT nor BROKEN at p: CLEAR and, if its FORCE AT p is above YIELD,"
            + " SOFT less its GIVE times what it is above YIELD.");
        BoltRow alone = made(1, 1, v(2, 3, 10, 4, 20));
        told(alone, "set(9, 0)", alone.set(9, 0), 0, 3, 1);
        told(alone, "set(10, 0), just at its yield", alone.set(10, 0), 0, 3, 1);
        told(alone, "set(11, 0)", alone.set(11, 0), 0, 5, 1);
        told(alone, "set(19, 0)", alone.set(19, 0), 0, 21, 1);

        says("Terms", "At q such a BOLT has FORCE 0, if its SLIP is not above SET; else SLIP is SET and GIVE times FORCE,"
            + " whatever FORCE is");
        told(x, "falls(28, 3, 0), below its set", x.falls(28, 3, 0), 0, 0, 1, 3, 1);
        // did it bear it would have to pull by a half
        BoltRow idle = stiff();
        told(idle, "falls(2, 2, 1), below its set", idle.falls(2, 2, 1), 0, 0, 1, 2, 1);
        told(idle, "falls(3, 3, 1), just at its set", idle.falls(3, 3, 1), 0, 0, 1, 3, 1);
        told(x, "falls(28, 4, 0), just at its set", x.falls(28, 4, 0), 0, 0, 1, 4, 1);
        told(x, "falls(28, 5, 0), above it", x.falls(28, 5, 0), 0, 1, 2, 9, 2);
        told(x, "falls(28, 26, 0), above its yield", x.falls(28, 26, 0), 0, 11, 1, 15, 1);

        says("Terms", "(at q 0 all FORCES are 0, all SLIPS the least SET)");
        BoltRow z = stiff();
        told(z, "falls(15, 0, 0)", z.falls(15, 0, 0), 0, 0, 1, 5, 1);
        told(z, "falls(15, 0, 1), broken", z.falls(15, 0, 1), 0, 0, 1, 5, 1);
        told(z, "falls(12, 0, 1), not broken", z.falls(12, 0, 1), 0, 0, 1, 0, 1);
        told(z, "falls(0, 0, 1)", z.falls(0, 0, 1), 0, 0, 1, 0, 1);
        // the one that is out has a lesser clear than the set of the other
        BoltRow s = made(0, 0, v(1, 1, 10, 3, 30), v(1, 0, 30, 1, 60));
        s.takes(1, true);
        told(s, "falls(11, 0, 1), out", s.falls(11, 0, 1), 0, 0, 1, 3, 1);
    }

    // ---- terms 2

    private static void rowAndRefusals() {
        says("Terms", "ROW: numbers told last by a call that says so.");
        BoltRow x = stiff();
        due("count(5) at first", x.count(5), 0);
        told(x, "arranges()", x.arranges(), 0, 0, 1, 20, 1);
        told(x, "events(), fewer", x.events(), 6, 2, 2, 2);
        told(x, "order(), still fewer", x.order(), 2, 1, 0);
        told(x, "idle(0), one", x.idle(0), 3, 0);
        BoltRow none = new BoltRow();
        none.events();
        told(none, "order(), none", none.order(), 0);

        says("Terms", "A fraction is told by two numbers: over, under (above 0), shortened (0: 0, 1).");
        told(x, "force(14, 0)", x.force(14, 0), 0, 17, 2);
        told(x, "force(5, 0)", x.force(5, 0), 0, 4, 1);
        told(x, "force(3, 1), nothing", x.force(3, 1), 0, 0, 1);
        told(x, "set(5, 0), nothing", x.set(5, 0), 0, 0, 1);
        told(x, "work(3), plates nothing", x.work(3), 0, 9, 1, 0, 1);

        says("Terms", "Sets of BOLTS are bits.");
        BoltRow y = made(0, 0, v(1, 9, 10, 1, 20), v(1, 0, 3, 1, 4), v(1, 8, 10, 1, 20), v(1, 0, 30, 1, 60), v(1, 9, 10, 1, 20));
        told(y, "idle(8)", y.idle(8), 1 + 4 + 16, 2);
        y.takes(0, true);
        told(y, "idle(0)", y.idle(0), 2 + 4 + 8 + 16, 0);

        says("Terms", "Calls that ask change nothing but the ROW.");
        askEverything();

        says("Terms", "Refused calls answer NONE, or false, and change nothing but THE TEXT");
        refuseEverything();

        says("Terms", "THE TEXT, which a call that reads it empties.");
        for (String text : new String[] {"01", "10", "19", "x", "00" + ONE}) {
            BoltRow a = stiff();
            write(a, text);
            a.replays();
            due("count(6) behind replays() of " + text, a.count(6), 0);
            write(a, text);
            due("count(6)", a.count(6), text.length());
            a.joint();
            due("count(6) behind joint() of " + text, a.count(6), 0);
        }

        says("Terms", "NONE comes ahead of other answers below 0, these as they are told");
        BoltRow five = full();
        due("bolt, not fair and full", five.bolt(0, 0, 1, 1, 60), -1);
        due("bolt, full", five.bolt(1, 0, 1, 1, 60), -2);
        due("when(3, 1), out", allOut().when(3, 1), -1);
        due("when(2, 1), out", allOut().when(2, 1), -2);
        due("fits(301), by none", stiff().fits(301), -1);
        due("set(20, 0), broken, at the peak", stiff().set(20, 0), -2);
        due("set(15, 1), broken, below it", stiff().set(15, 1), -3);
        due("set(0, 0), out, at the peak", allOut().set(0, 0), -2);
        due("opens(0), no forces, at the peak", allOut().opens(0), -2);
        due("opens(0), no forces, below it", stiff().opens(0), -3);
        due("falls(300, 301, 0), no such load, at the peak", stiff().falls(300, 301, 0), -1);

        says("Terms", "the ROW stays with each answer below 0, and with calls that do not tell of it.");
        untoldStays();
    }

    private static void askEverything() {
        Call[] asks = {
            x -> x.part(2, 5), x -> x.force(9, 0), x -> x.slip(9, 1), x -> x.bears(9, 1), x -> x.stretch(9),
            x -> x.state(9, 0), x -> x.idle(9), x -> x.hardest(9), x -> x.margin(9), x -> x.work(9), x -> x.set(20, 0),
            x -> x.falls(20, 3, 1), x -> x.opens(20), x -> x.events(), x -> x.event(3), x -> x.peak(), x -> x.order(),
            x -> x.when(2, 1), x -> x.sheds(0), x -> x.without(0), x -> x.tunes(1), x -> x.arranges(), x -> x.fits(0),
            x -> x.chance(5, 7, 10), x -> x.count(4),
        };
        for (int k = 0; k < asks.length; k++) {
            BoltRow x = made(2, 1, v(1, 4, 5, 6, 20), v(2, 3, 9, 4, 30), v(3, 1, 7, 5, 25));
            x.takes(2, true);
            x.pitch(1, 2);
            x.sign(0x30310000);
            x.end(2);
            x.peak();
            String before = all(x);
            due("ask " + k + " is not refused", asks[k].on(x) >= 0, true);
            x.peak();
            due("what is built behind ask " + k, all(x).equals(before), true);
            due("THE TEXT behind ask " + k, x.replays() >= 0, true);
        }
    }

    private static void refuseEverything() {
        stays(stiff(), "bolt", x -> x.bolt(0, 0, 10, 1, 20), -1);
        stays(stiff(), "plates", x -> x.plates(3, 1), -1);
        stays(stiff(), "plates", x -> x.plates(1, 3), -1);
        stays(stiff(), "pitch", x -> x.pitch(0, 3), -1);
        stays(stiff(), "alters", x -> x.alters(1, 1, 0, 10, 1, 10), -1);
        stays(stiff(), "takes", x -> x.takes(2, true), -1);
        stays(stiff(), "swaps", x -> x.swaps(1, 2) ? 1 : 0, 0);
        stays(stiff(), "swaps", x -> x.swaps(1, 1) ? 1 : 0, 0);
        stays(stiff(), "end", x -> x.end(3) ? 1 : 0, 0);
        stays(stiff(), "end", x -> x.end(-1) ? 1 : 0, 0);
        stays(stiff(), "event", x -> x.event(6), -1);
        stays(stiff(), "when", x -> x.when(0, 2), -1);
        stays(stiff(), "sheds", x -> x.sheds(2), -1);
        stays(stiff(), "without", x -> x.without(2), -1);
        stays(stiff(), "tunes", x -> x.tunes(2), -1);
        stays(stiff(), "fits", x -> x.fits(301), -1);
        stays(stiff(), "chance", x -> x.chance(1, 41, 0), -1);
        stays(stiff(), "count", x -> x.count(9), -1);
        stays(new BoltRow(), "arranges", x -> x.arranges(), -1);
        BoltRow full = stiff();
        for (int k = 0; k < 20; k++) {
            full.sign(0x30303030);
        }
        due("sign", full.sign(0x31313131), -1);
        due("count(6) behind it", full.count(6), 80);
        full.end(4);
        due("replays(), which finds the first sign told twice", full.replays(), -2);
    }

    private static void untoldStays() {
        Call[] calls = {
            x -> x.bolt(1, 0, 1, 1, 2), x -> x.plates(2, 2), x -> x.pitch(0, 2), x -> x.alters(0, 1, 1, 1, 1, 2),
            x -> x.takes(0, true), x -> x.swaps(0, 1) ? 1 : 0, x -> x.clears(), x -> x.sign(7), x -> x.end(1) ? 1 : 0,
            x -> x.joint(), x -> x.part(0, 0), x -> x.state(15, 1), x -> x.count(4), x -> x.row(0),
            x -> x.bolt(0, 0, 1, 1, 2), x -> x.plates(0, 0), x -> x.pitch(0, 1), x -> x.alters(0, 1, 0, 10, 2, 20),
            x -> x.takes(0, false), x -> x.force(20, 0), x -> x.slip(20, 0), x -> x.bears(20, 0), x -> x.stretch(20),
            x -> x.state(301, 0), x -> x.idle(301), x -> x.hardest(20), x -> x.margin(20), x -> x.work(20), x -> x.set(20, 0),
            x -> x.set(15, 1), x -> x.falls(20, 1, 0), x -> x.falls(5, 6, 0), x -> x.opens(20), x -> x.opens(0),
            x -> x.event(6), x -> x.when(3, 0), x -> x.sheds(0), x -> x.sheds(2), x -> x.without(2), x -> x.tunes(2),
            x -> x.fits(21), x -> x.fits(301), x -> x.chance(1, 0, 0), x -> x.count(9),
        };
        for (int k = 0; k < calls.length; k++) {
            BoltRow x = stiff();
            write(x, "00" + ONE);
            x.force(14, 0);
            calls[k].on(x);
            rowIs(x, "call " + k + " that does not tell", 17, 2);
        }
        BoltRow out = allOut();
        out.events();
        out.without(0);
        rowIs(out, "without(0), out", 0, 0, 0);
        out.when(0, 0);
        rowIs(out, "when(0, 0), out", 0, 0, 0);
        BoltRow none = new BoltRow();
        none.peak();
        none.arranges();
        rowIs(none, "arranges(), none", 0, 1);
        BoltRow x = stiff();
        x.force(14, 0);
        write(x, "9");
        x.replays();
        rowIs(x, "replays() of what can't stand", 17, 2);
        write(x, "9");
        x.joint();
        rowIs(x, "joint() of what can't stand", 17, 2);
    }

    // ---- promises 1 to 12

    private static void building() {
        says("Promise 1", "No BOLTS.");
        BoltRow n = new BoltRow();
        int[] empty = {0, 0, 0, -1, 0, 0, 0, 1, 1};
        for (int what = 0; what <= 8; what++) {
            due("count(" + what + ")", n.count(what), empty[what]);
        }
        due("part(0, 0) throws", partThrows(n, 0, 0), true);
        due("row(0) throws", rowThrows(n, 0), true);
        due("clears()", n.clears(), 0);

        says("Promise 2", "how many there are. -2: there are 5; NONE: others than told.");
        BoltRow x = new BoltRow();
        for (int k = 1; k <= 5; k++) {
            stays(x, "bolt, not fair", y -> y.bolt(1, 0, 10, 1, 10), -1);
            due("bolt", x.bolt(1, 0, 10, 1, 20), k);
        }
        stays(x, "bolt, sixth", y -> y.bolt(1, 0, 10, 1, 20), -2);
        stays(x, "bolt, sixth, not fair", y -> y.bolt(1, 0, 10, 1, 10), -1);
        due("clears()", x.clears(), 5);
        due("bolt behind clears()", x.bolt(1, 0, 10, 1, 20), 1);

        says("Promise 3", "-2: they are so; NONE: others than told.");
        BoltRow p = new BoltRow();
        stays(p, "plates(1, 1)", y -> y.plates(1, 1), -2);
        for (int bad : new int[] {-1, 3, LEAST, MOST}) {
            stays(p, "plates(" + bad + ", 1)", y -> y.plates(bad, 1), -1);
            stays(p, "plates(1, " + bad + ")", y -> y.plates(1, bad), -1);
        }
        due("plates(1, 2), one of both is so", p.plates(1, 2), 11);
        due("plates(0, 2), one of both is so", p.plates(0, 2), 12);
        due("plates(2, 0), the other way round", p.plates(2, 0), 2);

        says("Promise 4", "-2: it is so; NONE: no such ones.");
        BoltRow t = made(1, 1, v(1, 0, 10, 1, 20), v(1, 0, 10, 1, 20), v(1, 0, 10, 1, 20));
        stays(t, "pitch(1, 1)", y -> y.pitch(1, 1), -2);
        for (int bad : new int[] {-1, 2, 3, 4, 5, LEAST, MOST}) {
            stays(t, "pitch(" + bad + ", 1)", y -> y.pitch(bad, 1), -1);
            stays(t, "pitch(" + bad + ", 0)", y -> y.pitch(bad, 0), -1);
        }
        for (int bad : new int[] {-1, 3, LEAST, MOST}) {
            stays(t, "pitch(1, " + bad + ")", y -> y.pitch(1, bad), -1);
        }
        due("pitch(1, 0)", t.pitch(1, 0), 1);
        due("pitch(0, 2)", t.pitch(0, 2), 1);
        BoltRow five = full();
        due("pitch(3, 2), of five", five.pitch(3, 2), 1);
        due("pitch(4, 2), of five", five.pitch(4, 2), -1);
        due("pitch(0, 0), of one", made(1, 1, v(1, 0, 10, 1, 20)).pitch(0, 0), -1);
        due("pitch(0, 0), of none", new BoltRow().pitch(0, 0), -1);
        changing();
    }

    private static void changing() {
        says("Promise 5", "-2: none; NONE: no such BOLT, others than told. (OUT or not: as it was.)");
        stays(stiff(), "alters, as it is", y -> y.alters(1, 1, 3, 5, 1, 6), -2);
        for (int bad : new int[] {-1, 2, 5, LEAST, MOST}) {
            stays(stiff(), "alters(" + bad + ", ..)", y -> y.alters(bad, 1, 0, 10, 2, 20), -1);
        }
        due("alters, of none", new BoltRow().alters(0, 1, 0, 10, 2, 20), -1);
        stays(stiff(), "alters, not fair", y -> y.alters(1, 1, 3, 5, 1, 5), -1);
        BoltRow x = stiff();
        due("alters, one of five", x.alters(1, 1, 3, 5, 1, 7), 1);
        due("alters, five of five", x.alters(1, 2, 4, 6, 3, 8), 5);
        due("part(1, 5)", x.part(1, 5), 0);
        x.takes(1, true);
        due("alters, out", x.alters(1, 1, 3, 5, 1, 6), 5);
        due("part(1, 5), out", x.part(1, 5), 1);

        says("Promise 6", "-2: it is so; NONE: no such BOLT.");
        stays(stiff(), "takes(1, false)", y -> y.takes(1, false), -2);
        BoltRow out = stiff();
        due("takes(1, true)", out.takes(1, true), 1);
        stays(out, "takes(1, true) again", y -> y.takes(1, true), -2);
        due("takes(0, true), the last one", out.takes(0, true), 0);
        due("takes(1, false)", out.takes(1, false), 1);
        for (int bad : new int[] {-1, 2, 5, LEAST, MOST}) {
            stays(stiff(), "takes(" + bad + ", true)", y -> y.takes(bad, true), -1);
            stays(stiff(), "takes(" + bad + ", false)", y -> y.takes(bad, false), -1);
        }

        says("Promise 7", "Refused: no such ones, both are one.");
        for (int bad : new int[] {-1, 2, 5, LEAST, MOST}) {
            stays(stiff(), "swaps(" + bad + ", 0)", y -> y.swaps(bad, 0) ? 1 : 0, 0);
            stays(stiff(), "swaps(1, " + bad + ")", y -> y.swaps(1, bad) ? 1 : 0, 0);
            stays(stiff(), "swaps(" + bad + ", " + bad + ")", y -> y.swaps(bad, bad) ? 1 : 0, 0);
        }
        stays(stiff(), "swaps(0, 0)", y -> y.swaps(0, 0) ? 1 : 0, 0);
        stays(stiff(), "swaps(1, 1)", y -> y.swaps(1, 1) ? 1 : 0, 0);
        BoltRow s = full();
        s.alters(0, 2, 3, 4, 5, 6);
        s.takes(4, true);
        s.pitch(0, 2);
        due("swaps(4, 0), the ends", s.swaps(4, 0), true);
        due("part(4, 4)", s.part(4, 4), 6);
        due("part(0, 4)", s.part(0, 4), 60);
        due("part(0, 5), what is out goes with it", s.part(0, 5), 1);
        due("part(4, 5)", s.part(4, 5), 0);
        due("part(0, 6), pitches stay", s.part(0, 6), 2);

        says("Promise 8", "All BOLTS go (A and B stay): how many there were.");
        BoltRow c = made(2, 0, v(1, 0, 10, 1, 20));
        c.takes(0, true);
        due("clears(), one that is out", c.clears(), 1);
        due("clears(), none", c.clears(), 0);
        due("count(7)", c.count(7), 2);
        due("count(8)", c.count(8), 0);
        due("part(0, 0) throws", partThrows(c, 0, 0), true);
        told(c, "peak()", c.peak(), 0, 0, 1);
        due("clears(), five", full().clears(), 5);
        // pitches of bolts that are gone count no more
        BoltRow old = made(1, 0, v(1, 0, 10, 1, 20), v(1, 0, 10, 1, 20), v(1, 0, 10, 1, 20));
        old.pitch(1, 2);
        old.clears();
        old.plates(0, 1);
        old.bolt(1, 0, 10, 1, 20);
        old.bolt(1, 0, 10, 1, 20);
        // f1 is f0 and f0 once more
        told(old, "work(9)", old.work(9), 0, 45, 1, 9, 1);
        told(old, "stretch(9)", old.stretch(9), 0, 6, 1);
    }

    private static void textCalls() {
        says("Promise 9", "Four signs come behind THE TEXT, of v the highest byte first: how many it has.");
        BoltRow x = stiff();
        due("sign, on none", x.sign(0x31303131), 4);
        due("replays(), the third is told twice", x.replays(), -3);
        x.sign(0x31000000);
        x.end(1);
        due("sign, behind one", x.sign(0x30780000), 5);
        due("replays(), the third is no digit", x.replays(), -3);
        // 0xb1 is 1 with the highest bit, which makes v a number below 0
        x.sign(0xb1303030);
        due("replays(), the first is no digit", x.replays(), -1);
        x.sign(0x31b03030);
        due("replays(), the second is no digit", x.replays(), -2);
        due("sign(-1)", x.sign(-1), 4);
        due("sign(least)", x.sign(LEAST), 8);
        due("sign(0)", x.sign(0), 12);

        says("Promise 9", "Refused: there would be more than 80.");
        for (int left = 0; left <= 5; left++) {
            BoltRow y = stiff();
            for (int k = 1; k <= 20; k++) {
                due("sign number " + k, y.sign(0x30303030), 4 * k);
            }
            y.end(80 - left);
            due("sign, with room for " + left, y.sign(0x31313131), left < 4 ? -1 : 84 - left);
            due("count(6)", y.count(6), left < 4 ? 80 - left : 84 - left);
        }

        says("Promise 10", "THE TEXT has its first n signs alone: true; false if it has not so many, or n is below 0.");
        BoltRow z = stiff();
        due("end(0), of none", z.end(0), true);
        due("end(1), of none", z.end(1), false);
        z.sign(0x31303131);
        stillFour(z, 5);
        stillFour(z, MOST);
        stillFour(z, -1);
        stillFour(z, LEAST);
        due("end(4), all", z.end(4), true);
        due("count(6)", z.count(6), 4);
        due("end(3)", z.end(3), true);
        due("end(4), gone", z.end(4), false);
        due("count(6)", z.count(6), 3);
        due("end(0)", z.end(0), true);
        due("count(6)", z.count(6), 0);
        z.sign(0x31307878);
        z.end(2);
        due("replays(), the first two alone", z.replays(), 2);
    }

    private static void stillFour(BoltRow x, int n) {
        due("end(" + n + ")", x.end(n), false);
        due("count(6) behind end(" + n + ")", x.count(6), 4);
    }

    /** On a joint with one bolt out: if it is refused, all but THE TEXT is as it was. */
    private static void jointIs(String text, int want) {
        BoltRow x = stiff();
        x.takes(0, true);
        x.events();
        String before = all(x);
        write(x, text);
        due("joint() of " + text, x.joint(), want);
        due("count(6) behind joint() of " + text, x.count(6), 0);
        if (want < 0) {
            due("all stays behind joint() of " + text, all(x).equals(before), true);
        } else {
            due("count(0) behind joint() of " + text, x.count(0), want);
            due("count(1), none out, behind joint() of " + text, x.count(1), want);
        }
    }

    private static void jointText() {
        says("Promise 11", "in place of all that there is (none OUT)");
        BoltRow x = full();
        x.takes(0, true);
        x.plates(2, 0);
        x.pitch(0, 2);
        write(x, "12" + ONE + "/02930093");
        due("joint(), the last number is cut", x.joint(), -20);
        due("count(0)", x.count(0), 5);
        write(x, "12" + ONE + "/029300931");
        due("joint()", x.joint(), 2);
        int[][] want = {v(1, 0, 10, 1, 20, 0, 0), v(2, 9, 30, 9, 31, 0, 0)};
        for (int what = 0; what <= 6; what++) {
            due("part(0, " + what + ")", x.part(0, what), want[0][what]);
            due("part(1, " + what + ")", x.part(1, what), want[1][what]);
        }
        due("part(2, 0) throws", partThrows(x, 2, 0), true);
        due("count(7)", x.count(7), 1);
        due("count(8)", x.count(8), 2);

        says("Promise 11", "then of each BOLT (one at least)");
        jointIs("11", -3);
        jointIs("11" + ONE, 1);
        jointIs("11/1" + ONE, -3);
        jointIs("11" + ONE + "/1" + ONE, 2);
        jointIs(FIVE, 5);

        says("Promise 11", "the last digit of a number that can't be");
        lastDigits();

        says("Promise 11", "the / ahead of a sixth BOLT");
        jointIs(FIVE + "/", -51);
        jointIs(FIVE + "/1", -51);
        jointIs(FIVE + "/1" + ONE, -51);
        jointIs(FIVE + "/9" + ONE, -51);

        says("Promise 11", "its end, if it ends too early");
        String two = "11" + ONE + "/2" + ONE;
        for (int n = 0; n <= two.length(); n++) {
            jointIs(two.substring(0, n), n == 10 ? 1 : n == 20 ? 2 : -1 - n);
            // what was behind its end once does not count
            BoltRow cut = stiff();
            write(cut, two);
            cut.end(n);
            due("joint() of the first " + n + " signs", cut.joint(), n == 10 ? 1 : n == 20 ? 2 : -1 - n);
        }
        jointIs(FIVE.substring(0, 49), -50);

        says("Promise 11", "-1 - p: the sign at p can't stand there");
        for (int n = 0; n < two.length(); n++) {
            String bad = n == 10 ? "0" : "/";
            jointIs(two.substring(0, n) + bad + two.substring(n + 1), -1 - n);
            jointIs(two.substring(0, n) + ":" + two.substring(n + 1), -1 - n);
            jointIs(two.substring(0, n) + (char) 0 + two.substring(n + 1), -1 - n);
            jointIs(two.substring(0, n) + (char) (128 + two.charAt(n)) + two.substring(n + 1), -1 - n);
        }
        jointIs(two + "0", -21);
        jointIs(two + " ", -21);
        jointIs(FIVE + "0", -51);
        jointIs(FIVE + " ", -51);
        parts();
    }

    private static void lastDigits() {
        jointIs("31" + ONE, -1);
        jointIs("13" + ONE, -2);
        jointIs("11" + "00100120", -3);
        jointIs("11" + "60100620", -3);
        jointIs("11" + "19300960", 1);
        jointIs("11" + "19000960", -6);
        jointIs("11" + "19310960", -6);
        jointIs("11" + "19400960", -6);
        jointIs("11" + "59300460", -8);
        jointIs("11" + "19300060", -8);
        jointIs("11" + "19301060", -8);
        jointIs("11" + "19309960", -8);
        jointIs("11" + "19300930", -10);
        jointIs("11" + "19300961", -10);
        jointIs("11" + "19300900", -10);
        jointIs("11" + ONE + "/3" + ONE, -12);
        jointIs("11" + ONE + "/1" + "60100620", -13);
        jointIs("11" + ONE + "/1" + "19310960", -16);
        jointIs("11" + ONE + "/1" + "59300460", -18);
        jointIs("11" + ONE + "/1" + "19300930", -20);
        // a text that ends behind the number tells the number, not the end
        jointIs("11" + "1931", -6);
        jointIs("3", -1);
    }

    private static void parts() {
        says("Promise 12", "6 PITCHES behind it (0 of the last one)");
        BoltRow x = made(1, 1, v(1, 0, 10, 1, 20), v(1, 0, 10, 1, 20), v(1, 0, 10, 1, 20));
        x.pitch(0, 2);
        due("part(0, 6)", x.part(0, 6), 2);
        due("part(1, 6)", x.part(1, 6), 1);
        due("part(2, 6)", x.part(2, 6), 0);
        BoltRow y = full();
        due("part(3, 6)", y.part(3, 6), 1);
        due("part(4, 6)", y.part(4, 6), 0);
        // of what was there before there is nothing left
        y.pitch(1, 2);
        write(y, "11" + ONE + "/2" + ONE);
        y.joint();
        due("part(1, 6) behind joint()", y.part(1, 6), 0);

        says("Promise 12", "NoSuchElementException: none such, another what.");
        for (int i : new int[] {-1, 3, 4, 5, LEAST, MOST}) {
            for (int what = -1; what <= 7; what++) {
                due("part(" + i + ", " + what + ") throws", partThrows(x, i, what), true);
            }
        }
        for (int what : new int[] {-1, 7, LEAST, MOST}) {
            due("part(0, " + what + ") throws", partThrows(x, 0, what), true);
        }
        due("part(2, 0)", x.part(2, 0), 1);
        due("part(0, 0) of none throws", partThrows(new BoltRow(), 0, 0), true);
    }

    // ---- promises 13 to 21

    private static void asking() {
        says("Promise 13", "-2: p is PEAK or more (with a p of 0, too, if all are OUT); NONE: no such BOLT, p.");
        asForce("force", (x, p) -> x.force(p, 0));
        noLoad("force", (x, p) -> x.force(p, 0));
        noBolt("force", (x, p, i) -> x.force(p, i), 2);
        due("force(0, 1), all out", allOut().force(0, 1), -2);
        due("force(0, 1), one out", chain(1, 1).force(0, 1), 0);

        says("Promise 14", "SLIP of a BOLT AT p (OUT and BROKEN ones, too)");
        BoltRow x = stiff();
        told(x, "slip(19, 1), broken", x.slip(19, 1), 0, 28, 1);
        told(x, "slip(0, 1), not yet", x.slip(0, 1), 0, 0, 1);
        BoltRow out = chain(0, 2);
        // slip 0 is f0, slip 1 is 3 f0, slip 2 is 5 f0
        told(out, "slip(6, 0)", out.slip(6, 0), 0, 1, 1);
        told(out, "slip(6, 1), out", out.slip(6, 1), 0, 3, 1);
        told(out, "slip(6, 2)", out.slip(6, 2), 0, 5, 1);

        says("Promise 14", "-2, NONE: as force().");
        asForce("slip", (y, p) -> y.slip(p, 1));
        noLoad("slip", (y, p) -> y.slip(p, 1));
        noBolt("slip", (y, p, i) -> y.slip(p, i), 2);

        says("Promise 15", "p less BORNE (the upper one), BORNE (the lower one). -2: as force(); NONE: no such i, p.");
        asForce("bears", (y, p) -> y.bears(p, 0));
        noLoad("bears", (y, p) -> y.bears(p, 0));
        noBolt("bears", (y, p, i) -> y.bears(p, i), 1);
        BoltRow five = full();
        told(five, "bears(10, 3)", five.bears(10, 3), 0, 2, 1, 8, 1);
        due("bears(10, 4)", five.bears(10, 4), -1);
        told(five, "bears(0, 0)", five.bears(0, 0), 0, 0, 1, 0, 1);
        due("bears(5, 0), of one", made(1, 1, v(1, 0, 10, 1, 20)).bears(5, 0), -1);
        BoltRow first = chain(1, 0);
        first.takes(0, true);
        told(first, "bears(8, 0), out ahead of it", first.bears(8, 0), 0, 8, 1, 0, 1);

        says("Promise 16", "-2: as force(); NONE: no such p, no BOLTS.");
        asForce("stretch", (y, p) -> y.stretch(p));
        noLoad("stretch", (y, p) -> y.stretch(p));
        noBolts("stretch", (y, p) -> y.stretch(p));
        BoltRow alone = made(2, 2, v(2, 3, 10, 4, 20));
        told(alone, "stretch(5), of one", alone.stretch(5), 0, 13, 1);
        told(alone, "stretch(0)", alone.stretch(0), 0, 3, 1);

        says("Promise 17", "0 its FORCE is 0, 1 it is above 0 and not above YIELD, 2 above YIELD, 3 it is BROKEN, 4 it is OUT.");
        int[][] states = {v(0, 0), v(3, 0), v(4, 1), v(13, 1), v(14, 2), v(15, 3), v(20, 3), v(300, 3)};
        for (int[] s : states) {
            due("state(" + s[0] + ", 1)", x.state(s[0], 1), s[1]);
        }
        for (int p : new int[] {0, 5, 20, 300}) {
            due("state(" + p + ", 0), all out", allOut().state(p, 0), 4);
        }

        says("Promise 17", "NONE: no such BOLT, p.");
        noLoad("state", (y, p) -> y.state(p, 0));
        noBolt("state", (y, p, i) -> y.state(p, i), 2);
    }

    private static void askingMore() {
        says("Promise 18", "BOLTS AT p that bear nothing and are neither BROKEN nor OUT; the ROW: those that are BROKEN. NONE: no such p.");
        BoltRow x = stiff();
        told(x, "idle(3), just its clear", x.idle(3), 2, 0);
        told(x, "idle(4)", x.idle(4), 0, 0);
        told(x, "idle(14)", x.idle(14), 0, 0);
        told(x, "idle(15)", x.idle(15), 0, 2);
        told(x, "idle(19)", x.idle(19), 0, 2);
        told(x, "idle(20), the peak", x.idle(20), 0, 3);
        told(x, "idle(300)", x.idle(300), 0, 3);
        BoltRow out = allOut();
        told(out, "idle(0), all out", out.idle(0), 0, 0);
        told(out, "idle(300), all out", out.idle(300), 0, 0);
        BoltRow none = new BoltRow();
        told(none, "idle(300), none", none.idle(300), 0, 0);
        noLoad("idle", (y, p) -> y.idle(p));
        due("idle(301), none", none.idle(301), -1);

        says("Promise 19", "The BOLT with the greatest FORCE AT p (of equal ones the first)");
        BoltRow three = zip();
        due("hardest(29), of three", three.hardest(29), 0);
        three.takes(0, true);
        due("hardest(20), of the two others", three.hardest(20), 1);
        BoltRow last = made(0, 0, v(2, 0, 10, 2, 20), v(1, 0, 10, 1, 20), v(1, 0, 10, 1, 20));
        due("hardest(10)", last.hardest(10), 1);
        // half of the slip against the slip less 3: both are 3 at p 6
        BoltRow meet = made(0, 0, v(2, 0, 10, 2, 20), v(1, 3, 10, 1, 20));
        due("hardest(5)", meet.hardest(5), 0);
        due("hardest(6), equal", meet.hardest(6), 0);
        due("hardest(7)", meet.hardest(7), 1);
        due("hardest(0), no forces", last.hardest(0), 0);

        says("Promise 19", "how many thousandths of p it has, rounded down (0 with p 0), how many BOLTS have a FORCE above 0.");
        BoltRow thirds = made(0, 0, v(1, 0, 10, 1, 20), v(2, 3, 10, 2, 20));
        told(thirds, "hardest(3), the other just at its clear", thirds.hardest(3), 0, 1000, 1);
        thirds.alters(1, 2, 0, 10, 2, 20);
        told(thirds, "hardest(10), 666 and two thirds", thirds.hardest(10), 0, 666, 2);
        told(thirds, "hardest(0)", thirds.hardest(0), 0, 0, 0);

        says("Promise 19", "-2: as force(); NONE: no such p, no BOLTS.");
        asForce("hardest", (y, p) -> y.hardest(p));
        noLoad("hardest", (y, p) -> y.hardest(p));
        noBolts("hardest", (y, p) -> y.hardest(p));

        says("Promise 20", "How much LOAD can GROW from p on till the next EVENT above p");
        told(x, "margin(0), at events", x.margin(0), 0, 3, 1, 0, 1);
        BoltRow both = twins(0, 0);
        told(both, "margin(0), two at the next one", both.margin(0), 0, 20, 1, 1, 0);
        told(x, "margin(2)", x.margin(2), 0, 1, 1, 0, 1);
        told(x, "margin(3), at an event", x.margin(3), 0, 10, 1, 1, 1);
        told(x, "margin(14)", x.margin(14), 0, 1, 1, 2, 1);
        told(x, "margin(15), at two", x.margin(15), 0, 5, 1, 2, 0);
        told(x, "margin(19), ahead of the peak", x.margin(19), 0, 1, 1, 2, 0);
        BoltRow z = late();
        told(z, "margin(37), half ahead of it", z.margin(37), 0, 1, 2, 2, 0);

        says("Promise 20", "-2: as force(); NONE: no such p, no BOLTS.");
        asForce("margin", (y, p) -> y.margin(p));
        noLoad("margin", (y, p) -> y.margin(p));
        noBolts("margin", (y, p) -> y.margin(p));

        says("Promise 21", "if that is above YIELD: GIVE times the square of YIELD, and SOFT times what the square of FORCE is more"
            + " than that of YIELD");
        BoltRow alone = made(1, 1, v(2, 3, 10, 4, 20));
        told(alone, "work(10), just at its yield", alone.work(10), 0, 200, 1, 0, 1);
        told(alone, "work(11)", alone.work(11), 0, 284, 1, 0, 1);
        told(alone, "work(0)", alone.work(0), 0, 0, 1, 0, 1);
        told(x, "work(15), one broken", x.work(15), 0, 350, 1, 0, 1);

        says("Promise 21", "-2: as force(); NONE: no such p, no BOLTS.");
        asForce("work", (y, p) -> y.work(p));
        noLoad("work", (y, p) -> y.work(p));
        noBolts("work", (y, p) -> y.work(p));
    }

    // ---- promises 22 to 24

    private static void loadFalls() {
        says("Promise 22", "-2: as force(); -3: it is OUT, or BROKEN AT p; NONE: no such BOLT, p.");
        asForce("set", (x, p) -> x.set(p, 0));
        noLoad("set", (x, p) -> x.set(p, 0));
        noBolt("set", (x, p, i) -> x.set(p, i), 2);
        stays(stiff(), "set(15, 1), broken", x -> x.set(15, 1), -3);
        stays(stiff(), "set(19, 1), broken", x -> x.set(19, 1), -3);
        stays(stiff(), "set(20, 1), at the peak", x -> x.set(20, 1), -2);
        BoltRow x = stiff();
        told(x, "set(14, 1), not yet", x.set(14, 1), 0, 3, 1);
        BoltRow out = stiff();
        out.takes(1, true);
        stays(out, "set(0, 1), out", y -> y.set(0, 1), -3);
        stays(out, "set(19, 1), out", y -> y.set(19, 1), -3);
        stays(out, "set(20, 1), out", y -> y.set(20, 1), -2);

        says("Promise 23", "-2: as force(); NONE: no such BOLT, p, q.");
        asForce("falls", (y, p) -> y.falls(p, 0, 0));
        asForce("falls to itself", (y, p) -> y.falls(p, p, 0));
        noLoad("falls", (y, p) -> y.falls(p, 0, 0));
        noBolt("falls", (y, p, i) -> y.falls(p, 0, i), 2);
        for (int p : new int[] {0, 5, 20, 300}) {
            for (int q : new int[] {-1, p + 1, LEAST, MOST}) {
                stays(stiff(), "falls(" + p + ", " + q + ", 0)", y -> y.falls(p, q, 0), -1);
            }
        }
        told(x, "falls(5, 5, 0)", x.falls(5, 5, 0), 0, 4, 1, 4, 1);
        told(x, "falls(5, 0, 0)", x.falls(5, 0, 0), 0, 0, 1, 0, 1);

        says("Promise 24", "the BOLT of which the FORCE is first 0 that AT p is above 0 (of several the first)");
        BoltRow same = twins(0, 0);
        told(same, "opens(10), both at once", same.opens(10), 0, 0, 1);
        told(same, "opens(39), both at once", same.opens(39), 0, 0, 1);
        told(x, "opens(3), the other one has none", x.opens(3), 0, 0, 1);
        told(x, "opens(4)", x.opens(4), 1, 3, 1);
        // bolts 1 and 2 both let go where they began, at p 5
        BoltRow pair = made(0, 0, v(1, 0, 20, 1, 40), v(1, 5, 20, 1, 40), v(2, 5, 20, 2, 40));
        told(pair, "opens(20), two at once", pair.opens(20), 1, 5, 1);
        BoltRow third = made(2, 0, v(1, 0, 10, 2, 20), v(1, 0, 10, 2, 20));
        told(third, "opens(20), no whole load", third.opens(20), 0, 4, 3);

        says("Promise 24", "-2: as force(); -3: no FORCE is above 0; NONE: no such p, no BOLTS.");
        stays(stiff(), "opens(0)", y -> y.opens(0), -3);
        stays(full(), "opens(0)", y -> y.opens(0), -3);
        told(x, "opens(1)", x.opens(1), 0, 0, 1);
        asForce("opens", (y, p) -> y.opens(p));
        noLoad("opens", (y, p) -> y.opens(p));
        noBolts("opens", (y, p) -> y.opens(p));
    }

    // ---- promises 25 to 31

    private static void eventCalls() {
        says("Promise 25", "EVENTS: how many; the ROW: how many of kind 0, 1, 2.");
        BoltRow none = new BoltRow();
        told(none, "events(), no bolts", none.events(), 0, 0, 0, 0);
        BoltRow out = allOut();
        told(out, "events(), all out", out.events(), 0, 0, 0, 0);
        BoltRow five = full();
        told(five, "events(), five", five.events(), 15, 5, 5, 5);

        says("Promise 26", "EVENT number k: its kind; the ROW: its BOLT, p. NONE: none such.");
        eventIs(five, 0, 0, 0, 0, 1);
        eventIs(five, 14, 2, 4, 300, 1);
        for (int k : new int[] {-1, 15, 16, LEAST, MOST}) {
            stays(full(), "event(" + k + ")", y -> y.event(k), -1);
        }
        stays(stiff(), "event(6)", y -> y.event(6), -1);
        stays(allOut(), "event(0), all out", y -> y.event(0), -1);
        stays(new BoltRow(), "event(0), no bolts", y -> y.event(0), -1);

        says("Promise 27", "PEAK: how many BOLTS are BROKEN at it; the ROW: PEAK.");
        BoltRow two = made(0, 0, v(1, 0, 30, 1, 60), v(1, 0, 9, 1, 10), v(1, 0, 9, 1, 10));
        told(two, "peak(), two broken ahead of it", two.peak(), 1, 60, 1);
        BoltRow zip = zip();
        told(zip, "peak(), all at once", zip.peak(), 3, 30, 1);
        told(none, "peak(), no bolts", none.peak(), 0, 0, 1);
        told(out, "peak(), all out", out.peak(), 0, 0, 1);
        told(five, "peak(), the greatest", five.peak(), 5, 300, 1);

        says("Promise 28", "The BOLTS in the order in which they are BROKEN: how many; the ROW: they.");
        told(none, "order(), no bolts", none.order(), 0);
        told(out, "order(), all out", out.order(), 0);
        told(five, "order(), five", five.order(), 5, 0, 1, 2, 3, 4);
        zip.takes(0, true);
        told(zip, "order(), one out", zip.order(), 2, 2, 1);

        says("Promise 29", "-2: there is none; NONE: no such kind, BOLT.");
        for (int kind = 0; kind <= 2; kind++) {
            int k = kind;
            stays(allOut(), "when(" + kind + ", 1), out", y -> y.when(k, 1), -2);
            for (int i : new int[] {-1, 2, 5, LEAST, MOST}) {
                stays(stiff(), "when(" + kind + ", " + i + ")", y -> y.when(k, i), -1);
            }
            due("when(" + kind + ", 0)", five.when(kind, 0), 0);
            due("when(" + kind + ", 4)", five.when(kind, 4), 0);
            due("when(" + kind + ", 0), no bolts", none.when(kind, 0), -1);
        }
        for (int kind : new int[] {-1, 3, LEAST, MOST}) {
            stays(stiff(), "when(" + kind + ", 0)", y -> y.when(kind, 0), -1);
            stays(allOut(), "when(" + kind + ", 0), out", y -> y.when(kind, 0), -1);
        }
    }

    private static void sheddings() {
        says("Promise 30", "(both at that p; ahead of what comes by it)");
        BoltRow x = zip();
        // 0 breaks at 30, and by it 2, and by that 1
        told(x, "sheds(0)", x.sheds(0), 1, 1, 0, 5, 5);
        told(x, "sheds(2)", x.sheds(2), 1, 1, 0, 15, 0);

        says("Promise 30", "the BOLT that gets most (of equal ones the first)");
        due("sheds(0), both get 5", x.sheds(0), 1);
        BoltRow t = thirds();
        due("sheds(0), 21/5 and 14/5", t.sheds(0), 1);
        BoltRow last = made(0, 0, v(1, 0, 6, 1, 7), v(3, 0, 30, 3, 60), v(2, 0, 30, 2, 60));
        due("sheds(0), 14/5 and 21/5", last.sheds(0), 2);
        BoltRow back = made(0, 0, v(1, 0, 30, 1, 60), v(1, 0, 30, 1, 60), v(1, 0, 9, 1, 10));
        told(back, "sheds(2)", back.sheds(2), 0, 1, 5, 5, 0);
        BoltRow five = full();
        told(five, "sheds(0), of five", five.sheds(0), 1, 1, 0, 15, 15, 15, 15);
        told(five, "sheds(3), of five", five.sheds(3), 4, 1, 0, 0, 0, 0, 150);

        says("Promise 30", "(0 of itself, of those that are BROKEN ahead of it or OUT)");
        told(x, "sheds(2), 0 is broken ahead of it", x.sheds(2), 1, 1, 0, 15, 0);
        t.takes(1, true);
        told(t, "sheds(0), 1 is out", t.sheds(0), 2, 1, 0, 0, 7);

        says("Promise 30", "(the least above 0 by which all are whole)");
        t.takes(1, false);
        told(t, "sheds(0), fifths", t.sheds(0), 1, 5, 0, 21, 14);
        told(x, "sheds(0), wholes", x.sheds(0), 1, 1, 0, 5, 5);
        // slips grow by 1 as it breaks, of which the others bear a half, a half and a whole
        BoltRow half = made(0, 0, v(1, 0, 1, 1, 2), v(2, 0, 20, 2, 40), v(2, 0, 20, 2, 40), v(1, 0, 20, 1, 40));
        told(half, "sheds(0), halves and a whole", half.sheds(0), 3, 2, 0, 1, 1, 2);

        says("Promise 30", "-2: it is not BROKEN at all, or none is left then; NONE: no such BOLT.");
        BoltRow out = stiff();
        out.takes(1, true);
        stays(out, "sheds(1), out", y -> y.sheds(1), -2);
        stays(out, "sheds(0), none left", y -> y.sheds(0), -2);
        stays(stiff(), "sheds(0), the last one", y -> y.sheds(0), -2);
        stays(zip(), "sheds(1), the last one at that p", y -> y.sheds(1), -2);
        due("sheds(1)", stiff().sheds(1), 0);
        for (int i : new int[] {-1, 2, 5, LEAST, MOST}) {
            stays(stiff(), "sheds(" + i + ")", y -> y.sheds(i), -1);
        }
        due("sheds(0), no bolts", new BoltRow().sheds(0), -1);
    }

    /** The answer, and if it is not below 0 what the row tells; THE TEXT is empty behind it. */
    private static void replaysTell(BoltRow x, String text, int want, int whole) {
        x.events();
        write(x, text);
        due("replays() of '" + text + "'", x.replays(), want);
        due("count(6) behind replays() of '" + text + "'", x.count(6), 0);
        if (want >= 0) {
            rowIs(x, "replays() of '" + text + "'", whole);
        } else {
            due("count(5) behind replays() of '" + text + "'", x.count(5), 3);
        }
    }

    private static void replayed() {
        says("Promise 31", "how many of them, from the first on, are BROKEN in that order");
        BoltRow x = zip();
        replaysTell(x, "", 0, 0);
        replaysTell(x, "0", 1, 0);
        replaysTell(x, "02", 2, 0);
        replaysTell(x, "021", 3, 1);
        replaysTell(x, "012", 1, 0);
        replaysTell(x, "210", 0, 0);
        replaysTell(x, "120", 0, 0);

        says("Promise 31", "the ROW: 1 if it is the whole order, else 0.");
        replaysTell(new BoltRow(), "", 0, 1);
        replaysTell(allOut(), "", 0, 1);
        replaysTell(allOut(), "0", 0, 0);
        replaysTell(full(), "01234", 5, 1);
        replaysTell(full(), "0123", 4, 0);
        x.takes(2, true);
        replaysTell(x, "01", 2, 1);
        replaysTell(x, "012", 2, 0);
        replaysTell(x, "0", 1, 0);

        says("Promise 31", "-1 - p: the sign at p can't stand there (the digit of a BOLT that there is not, or was told).");
        BoltRow y = zip();
        replaysTell(y, "3", -1, 0);
        replaysTell(y, "9", -1, 0);
        replaysTell(y, "023", -3, 0);
        replaysTell(y, "0213", -4, 0);
        replaysTell(y, "00", -2, 0);
        replaysTell(y, "0210", -4, 0);
        replaysTell(y, "1213", -3, 0);
        replaysTell(y, "/", -1, 0);
        replaysTell(y, "0:", -2, 0);
        replaysTell(y, "0" + (char) 178, -2, 0);
        replaysTell(y, "0" + (char) 0, -2, 0);
        replaysTell(full(), "01235", -5, 0);
        replaysTell(full(), "012345", -6, 0);
        BoltRow none = new BoltRow();
        none.sign(0x30303030);
        due("replays() of digits, no bolts", none.replays(), -1);
        // what was behind its end once does not count
        write(y, "0210");
        y.end(2);
        due("replays() of the first two", y.replays(), 2);
        BoltRow long80 = stiff();
        for (int k = 0; k < 20; k++) {
            long80.sign(0x31303030);
        }
        due("replays() of 80 signs", long80.replays(), -3);
    }

    // ---- promises 32 to 36

    private static void wouldBe() {
        says("Promise 32", "0 it is less than PEAK, 1 it is as much, 2 it is more");
        BoltRow x = stiff();
        told(x, "without(0)", x.without(0), 0, 6, 1);
        told(x, "without(1), as much", x.without(1), 1, 20, 1);
        BoltRow alone = made(1, 1, v(1, 0, 10, 1, 20));
        told(alone, "without(0), the only one", alone.without(0), 0, 0, 1);
        x.takes(0, true);
        told(x, "without(1), the only one not out", x.without(1), 0, 0, 1);

        says("Promise 32", "-2: it is OUT; NONE: no such BOLT.");
        stays(allOut(), "without(0), out", y -> y.without(0), -2);
        for (int i : new int[] {-1, 2, 5, LEAST, MOST}) {
            stays(stiff(), "without(" + i + ")", y -> y.without(i), -1);
            stays(allOut(), "without(" + i + ")", y -> y.without(i), -1);
        }
        due("without(0), no bolts", new BoltRow().without(0), -1);

        says("Promise 33", "The CLEAR 0 .. 9 of a BOLT by which PEAK would be greatest (of equal ones the least)");
        BoltRow low = twins(5, 0);
        told(low, "tunes(0), the least clear", low.tunes(0), 0, 40, 1);
        BoltRow high = twins(5, 9);
        told(high, "tunes(0), the greatest clear", high.tunes(0), 9, 40, 1);
        told(high, "tunes(1), between", high.tunes(1), 5, 40, 1);
        BoltRow same = made(1, 1, v(1, 7, 10, 1, 20));
        told(same, "tunes(0), all equal", same.tunes(0), 0, 20, 1);
        BoltRow out = allOut();
        told(out, "tunes(0), all out", out.tunes(0), 0, 0, 1);

        says("Promise 33", "NONE: no such BOLT.");
        for (int i : new int[] {-1, 2, 5, LEAST, MOST}) {
            stays(stiff(), "tunes(" + i + ")", y -> y.tunes(i), -1);
        }
        due("tunes(0), no bolts", new BoltRow().tunes(0), -1);
        fitting();
    }

    private static void fitting() {
        says("Promise 35", "The greatest c 0 .. 9 so that, were all CLEARS above c to become c, PEAK were p at least");
        BoltRow x = twins(2, 7);
        told(x, "fits(34)", x.fits(34), 9, 35, 1);
        told(x, "fits(35), just as much", x.fits(35), 9, 35, 1);
        told(x, "fits(36)", x.fits(36), 6, 36, 1);
        told(x, "fits(40)", x.fits(40), 2, 40, 1);
        BoltRow y = twins(5, 0);
        told(y, "fits(40), none at all", y.fits(40), 0, 40, 1);
        told(y, "fits(39)", y.fits(39), 1, 39, 1);
        BoltRow z = twins(9, 9);
        told(z, "fits(40), the greatest", z.fits(40), 9, 40, 1);
        BoltRow top = full();
        told(top, "fits(300)", top.fits(300), 9, 300, 1);
        BoltRow out = allOut();
        told(out, "fits(0), all out", out.fits(0), 9, 0, 1);

        says("Promise 35", "-2: by none; NONE: no such p, no BOLTS.");
        stays(twins(2, 7), "fits(41)", a -> a.fits(41), -2);
        stays(twins(2, 7), "fits(300)", a -> a.fits(300), -2);
        stays(allOut(), "fits(1), all out", a -> a.fits(1), -2);
        noLoad("fits", (a, p) -> a.fits(p));
        noBolts("fits", (a, p) -> a.fits(p));
    }

    private static void arrangements() {
        says("Promise 34", "1 if it is not the one that is, else 0");
        // at one end a bolt has three times what it has at the other: 60 and 20 are right
        BoltRow x = made(2, 0, v(1, 0, 10, 1, 20), v(1, 0, 10, 1, 60));
        told(x, "arranges()", x.arranges(), 1, 1, 0, 80, 1);
        x.swaps(0, 1);
        told(x, "arranges(), so already", x.arranges(), 0, 0, 1, 80, 1);
        BoltRow alone = made(1, 1, v(1, 0, 10, 1, 20));
        told(alone, "arranges(), one", alone.arranges(), 0, 0, 20, 1);
        BoltRow out = allOut();
        told(out, "arranges(), all out", out.arranges(), 0, 0, 1, 0, 1);

        says("Promise 34", "(of several such orders the one with the lesser number at the first unlike place)");
        BoltRow alike = full();
        told(alike, "arranges(), all alike", alike.arranges(), 0, 0, 1, 2, 3, 4, 300, 1);
        // the first has five times what both behind it have, each: 60 must be first, the others may stand either way
        BoltRow two = made(2, 0, v(1, 0, 10, 1, 20), v(1, 0, 10, 1, 20), v(1, 0, 10, 1, 60));
        two.pitch(1, 0);
        told(two, "arranges(), two such orders", two.arranges(), 1, 2, 0, 1, 84, 1);

        says("Promise 34", "The order of BOLTS (OUT ones, too, as such; PITCHES stay)");
        // best is the one that is out between the others where the pitch is, which leaves none between those that bear
        BoltRow z = made(2, 0, v(1, 0, 10, 1, 20), v(1, 0, 10, 1, 20), v(1, 0, 10, 1, 20));
        z.pitch(0, 0);
        z.takes(1, true);
        told(z, "arranges(), one out", z.arranges(), 1, 0, 2, 1, 40, 1);
        due("part(0, 6), nothing moved", z.part(0, 6), 0);
        due("part(1, 5), nothing moved", z.part(1, 5), 1);

        says("Promise 34", "NONE: no BOLTS.");
        stays(new BoltRow(), "arranges()", y -> y.arranges(), -1);
    }

    private static void draws() {
        says("Promise 36", "n times (1 .. 40) CLEARS of all BOLTS by DRAWS of 10, one behind another");
        BoltRow x = twins(0, 0);
        // draws of seed 1: 8 6 3 3 9 5 8 7 0 6 9 7, which make peaks of 38 40 36 39 34 38
        told(x, "chance(1, 1, 0)", x.chance(1, 1, 0), 1, 38, 1);
        told(x, "chance(1, 3, 0)", x.chance(1, 3, 0), 3, 36, 1);
        told(x, "chance(1, 6, 38)", x.chance(1, 6, 38), 4, 34, 1);
        due("chance(1, 40, 0)", x.chance(1, 40, 0), 40);
        due("part(0, 1)", x.part(0, 1), 0);
        BoltRow out = made(0, 0, v(1, 0, 10, 1, 20), v(1, 0, 10, 1, 20), v(1, 0, 10, 1, 20));
        out.takes(1, true);
        told(out, "chance(1, 3, 35), 8 and 3, 3 and 5, 8 and 0", out.chance(1, 3, 35), 2, 32, 1);

        says("Promise 36", "how many times PEAK is p at least; the ROW: the least PEAK.");
        told(x, "chance(1, 1, 38), just as much", x.chance(1, 1, 38), 1, 38, 1);
        told(x, "chance(1, 1, 39)", x.chance(1, 1, 39), 0, 38, 1);
        told(x, "chance(1, 6, 300)", x.chance(1, 6, 300), 0, 34, 1);
        BoltRow none = allOut();
        told(none, "chance(1, 5, 0), all out", none.chance(1, 5, 0), 5, 0, 1);
        told(none, "chance(1, 5, 1), all out", none.chance(1, 5, 1), 0, 0, 1);
        // each clear above the least one takes a ninth from 300; seed 13 draws 0 1 2 1 3, seed 9952 five times 8
        BoltRow top = made(0, 0, v(1, 0, 1, 9, 60), v(1, 0, 1, 9, 60), v(1, 0, 1, 9, 60), v(1, 0, 1, 9, 60), v(1, 0, 1, 9, 60));
        told(top, "chance(13, 1, 299)", top.chance(13, 1, 299), 1, 2693, 9);
        told(top, "chance(13, 1, 300)", top.chance(13, 1, 300), 0, 2693, 9);
        told(top, "chance(9952, 1, 300), as much as there can be", top.chance(9952, 1, 300), 1, 300, 1);

        says("Promise 36", "NONE: no such n, p, no BOLTS.");
        for (int n : new int[] {0, 41, -1, LEAST, MOST}) {
            stays(stiff(), "chance(1, " + n + ", 5)", y -> y.chance(1, n, 5), -1);
        }
        noLoad("chance", (y, p) -> y.chance(1, 1, p));
        noBolts("chance", (y, p) -> y.chance(1, 1, p));

        says("Promise 36", "R = R times 1103515245 + 12345 (as ints; R is seed at first), (R without sign, by 65536) % n.");
        // greatest: 9 7 0 8 1 6; least: 8 8 8 7 6 7; -1: 7 9 2 6 3 4; 0: 0 6 6 5 8 5
        told(x, "chance(greatest, 3, 35)", x.chance(MOST, 3, 35), 2, 32, 1);
        told(x, "chance(greatest, 1, 0)", x.chance(MOST, 1, 0), 1, 38, 1);
        told(x, "chance(least, 3, 40)", x.chance(LEAST, 3, 40), 1, 39, 1);
        told(x, "chance(-1, 3, 38)", x.chance(-1, 3, 38), 2, 36, 1);
        told(x, "chance(0, 3, 37)", x.chance(0, 3, 37), 2, 34, 1);
    }

    // ---- promises 37 and 38

    private static void countsAndRow() {
        says("Promise 37", "2: BREAKS of these together, 3: the least CLEAR of these (NONE without)");
        BoltRow x = stiff();
        due("count(2)", x.count(2), 26);
        due("count(3)", x.count(3), 0);
        x.takes(0, true);
        due("count(1), one out", x.count(1), 1);
        due("count(2), one out", x.count(2), 6);
        due("count(3), one out", x.count(3), 3);
        x.takes(1, true);
        due("count(0), all out", x.count(0), 2);
        due("count(1), all out", x.count(1), 0);
        due("count(2), all out", x.count(2), 0);
        due("count(3), all out", x.count(3), -1);
        due("count(3), no bolts", new BoltRow().count(3), -1);
        due("count(2), the most", full().count(2), 300);

        says("Promise 37", "NONE for another what.");
        for (int what : new int[] {-1, 9, LEAST, MOST}) {
            stays(stiff(), "count(" + what + ")", y -> y.count(what), -1);
        }
        due("count(8)", stiff().count(8), 0);

        says("Promise 38", "Number i of the ROW. NoSuchElementException: none such.");
        BoltRow y = full();
        for (int i : new int[] {-1, 0, 1, LEAST, MOST}) {
            due("row(" + i + ") throws at first", rowThrows(y, i), true);
        }
        y.arranges();
        due("row(6)", y.row(6), 1);
        due("row(5)", y.row(5), 300);
        for (int i : new int[] {-1, 7, 8, LEAST, MOST}) {
            due("row(" + i + ") throws behind arranges()", rowThrows(y, i), true);
        }
        y.idle(0);
        due("row(0)", y.row(0), 0);
        due("row(1) throws behind idle()", rowThrows(y, 1), true);
        y.clears();
        y.order();
        due("row(0) throws behind order() of none", rowThrows(y, 0), true);
    }
}
