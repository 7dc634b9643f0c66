import java.util.NoSuchElementException;

/** A lap joint of at most five bolts, worked out in whole fractions. README.md tells how to use it. */
public final class BoltRow {

    public static final int NONE = -1;

    private static final int AS_IT_IS = -2;
    private static final int FULL = -2;
    private static final int GONE = -2;
    private static final int NOT_SO = -2;
    private static final int BEARS_NOT = -3;

    private static final int MOST_BOLTS = 5;
    private static final int MOST_CLEAR = 9;
    private static final int MOST_LOAD = 300;
    private static final int MOST_GIVEN = 2;
    private static final int MOST_PITCHES = 2;
    private static final int MOST_SIGNS = 80;
    private static final int MOST_DRAWS = 40;
    private static final int ROW_ROOM = 8;
    private static final int KINDS = 3;

    private static final int BEGINS = 0;
    private static final int YIELDS = 1;
    private static final int BREAKS = 2;

    // The ways a bolt can be in; they are in the order of what state() tells.
    private static final int IDLE = 0;
    private static final int ELASTIC = 1;
    private static final int PLASTIC = 2;
    private static final int BROKEN = 3;
    private static final int OUT = 4;

    private final Joint built = new Joint();
    private final Growth growth = new Growth(built);
    private final Fall fall = new Fall(built, growth);
    private final Joint trial = new Joint();
    private final Growth guess = new Growth(trial);
    private final Script text = new Script();
    private final Row told = new Row();
    private final int[] seats = new int[MOST_BOLTS];
    private final int[] bestSeats = new int[MOST_BOLTS];

    public BoltRow() {
    }

    // ---- what is built

    public int bolt(int give, int clear, int yield, int soft, int breaks) {
        if (!fair(give, clear, yield, soft, breaks)) {
            return NONE;
        }
        if (built.bolts >= MOST_BOLTS) {
            return FULL;
        }
        built.add(give, clear, yield, soft, breaks);
        growth.known = false;
        return built.bolts;
    }

    public int plates(int a, int b) {
        if (!within(a, 0, MOST_GIVEN) || !within(b, 0, MOST_GIVEN)) {
            return NONE;
        }
        if (a == built.upper && b == built.lower) {
            return AS_IT_IS;
        }
        int were = 10 * built.upper + built.lower;
        built.upper = a;
        built.lower = b;
        growth.known = false;
        return were;
    }

    public int pitch(int i, int w) {
        if (!built.hasGap(i) || !within(w, 0, MOST_PITCHES)) {
            return NONE;
        }
        int were = built.pitches[i];
        if (w == were) {
            return AS_IT_IS;
        }
        built.pitches[i] = w;
        growth.known = false;
        return were;
    }

    public int alters(int i, int give, int clear, int yield, int soft, int breaks) {
        if (!built.has(i) || !fair(give, clear, yield, soft, breaks)) {
            return NONE;
        }
        int others = (built.give[i] == give ? 0 : 1) + (built.clear[i] == clear ? 0 : 1)
            + (built.yieldAt[i] == yield ? 0 : 1) + (built.soft[i] == soft ? 0 : 1)
            + (built.breakAt[i] == breaks ? 0 : 1);
        if (others == 0) {
            return AS_IT_IS;
        }
        built.write(i, give, clear, yield, soft, breaks);
        growth.known = false;
        return others;
    }

    public int takes(int i, boolean out) {
        if (!built.has(i)) {
            return NONE;
        }
        if (built.out[i] == out) {
            return AS_IT_IS;
        }
        built.out[i] = out;
        growth.known = false;
        return Integer.bitCount(built.soundBits());
    }

    public boolean swaps(int i, int k) {
        if (!built.has(i) || !built.has(k) || i == k) {
            return false;
        }
        trial.copyAll(built);
        built.copyBolt(trial, k, i);
        built.copyBolt(trial, i, k);
        growth.known = false;
        return true;
    }

    public int clears() {
        int were = built.bolts;
        built.bolts = 0;
        growth.known = false;
        return were;
    }

    public int sign(int v) {
        return text.addFour(v) ? text.size : NONE;
    }

    public boolean end(int n) {
        return text.cut(n);
    }

    public int joint() {
        int fault = text.readJoint(trial);
        text.size = 0;
        if (fault >= 0) {
            return -1 - fault;
        }
        built.copyAll(trial);
        growth.known = false;
        return built.bolts;
    }

    public int part(int i, int what) throws NoSuchElementException {
        if (!built.has(i)) {
            throw new NoSuchElementException();
        }
        switch (what) {
            case 0:
                return built.give[i];
            case 1:
                return built.clear[i];
            case 2:
                return built.yieldAt[i];
            case 3:
                return built.soft[i];
            case 4:
                return built.breakAt[i];
            case 5:
                return built.out[i] ? 1 : 0;
            case 6:
                return built.hasGap(i) ? built.pitches[i] : 0;
            default:
                throw new NoSuchElementException();
        }
    }

    // ---- at a load

    public int force(int p, int i) {
        int answer = come(p, built.has(i));
        if (answer == 0) {
            told.size = 0;
            told.fraction(growth.lines.forceAt(i, p, 1), growth.lines.under);
        }
        return answer;
    }

    public int slip(int p, int i) {
        int answer = come(p, built.has(i));
        if (answer == 0) {
            told.size = 0;
            told.fraction(growth.lines.slipAt(i, p, 1), growth.lines.under);
        }
        return answer;
    }

    public int bears(int p, int i) {
        int answer = come(p, built.hasGap(i));
        if (answer == 0) {
            long borne = growth.lines.borneAt(i, p);
            long under = growth.lines.under;
            told.size = 0;
            told.fraction(p * under - borne, under);
            told.fraction(borne, under);
        }
        return answer;
    }

    public int stretch(int p) {
        int answer = come(p, built.bolts > 0);
        if (answer == 0) {
            long far = growth.lines.slipAt(0, p, 1);
            for (int i = 0; i + 1 < built.bolts; i++) {
                far += built.lower * built.pitches[i] * growth.lines.borneAt(i, p);
            }
            told.size = 0;
            told.fraction(far, growth.lines.under);
        }
        return answer;
    }

    public int state(int p, int i) {
        if (come(p, built.has(i)) == NONE) {
            return NONE;
        }
        if (built.out[i]) {
            return OUT;
        }
        if ((growth.leftAfter(p) >> i & 1) == 0) {
            return BROKEN;
        }
        long over = growth.lines.forceAt(i, p, 1);
        if (over <= 0) {
            return IDLE;
        }
        return over <= built.yieldAt[i] * growth.lines.under ? ELASTIC : PLASTIC;
    }

    public int idle(int p) {
        if (come(p, true) == NONE) {
            return NONE;
        }
        int left = growth.leftAfter(p);
        told.size = 0;
        told.whole(built.soundBits() & ~left);
        return left & ~bearingAt(p);
    }

    public int hardest(int p) {
        int answer = come(p, built.bolts > 0);
        if (answer < 0) {
            return answer;
        }
        int best = 0;
        for (int i = 1; i < built.bolts; i++) {
            if (growth.lines.forceAt(i, p, 1) > growth.lines.forceAt(best, p, 1)) {
                best = i;
            }
        }
        long all = p * growth.lines.under;
        told.size = 0;
        told.whole(all == 0 ? 0 : 1000 * growth.lines.forceAt(best, p, 1) / all);
        told.whole(Integer.bitCount(bearingAt(p)));
        return best;
    }

    public int margin(int p) {
        int answer = come(p, built.bolts > 0);
        if (answer == 0) {
            int next = 0;
            while (next < growth.total - 1 && growth.over[next] <= p * growth.under[next]) {
                next++;
            }
            told.size = 0;
            told.fraction(growth.over[next] - p * growth.under[next], growth.under[next]);
            told.whole(growth.kind[next]);
            told.whole(growth.who[next]);
        }
        return answer;
    }

    public int work(int p) {
        int answer = come(p, built.bolts > 0);
        if (answer == 0) {
            long ofBolts = 0;
            long ofPlates = 0;
            for (int i = 0; i < built.bolts; i++) {
                ofBolts += boltWork(i, p);
                ofPlates += plateWork(i, p);
            }
            long under = growth.lines.under * growth.lines.under;
            told.size = 0;
            told.fraction(ofBolts, under);
            told.fraction(ofPlates, under);
        }
        return answer;
    }

    // ---- as load falls

    public int set(int p, int i) {
        int answer = come(p, built.has(i));
        if (answer < 0) {
            return answer;
        }
        int left = growth.leftAfter(p);
        if ((left >> i & 1) == 0) {
            return BEARS_NOT;
        }
        fall.startFrom(left, p);
        told.size = 0;
        told.fraction(fall.sets[i], fall.unit);
        return 0;
    }

    public int falls(int p, int q, int i) {
        int answer = come(p, within(q, 0, p) && built.has(i));
        if (answer == 0) {
            fall.startFrom(growth.leftAfter(p), p);
            fall.comeTo(q);
            long under = growth.lines.under * fall.unit;
            told.size = 0;
            told.fraction(growth.lines.forceAt(i, q * fall.unit, 1), under);
            told.fraction(growth.lines.slipAt(i, q * fall.unit, 1), under);
        }
        return answer;
    }

    public int opens(int p) {
        int answer = come(p, built.bolts > 0);
        if (answer < 0) {
            return answer;
        }
        fall.startFrom(growth.leftAfter(p), p);
        int first = fall.seekOpening(bearingAt(p), p);
        if (first < 0) {
            return BEARS_NOT;
        }
        told.size = 0;
        told.fraction(fall.openOver, fall.openUnder);
        return first;
    }

    // ---- as load grows

    public int events() {
        growth.run();
        told.size = 0;
        for (int kind = 0; kind < KINDS; kind++) {
            told.whole(growth.countOf(kind));
        }
        return growth.total;
    }

    public int event(int k) {
        growth.run();
        if (k < 0 || k >= growth.total) {
            return NONE;
        }
        told.size = 0;
        told.whole(growth.who[k]);
        told.fraction(growth.over[k], growth.under[k]);
        return growth.kind[k];
    }

    public int peak() {
        growth.run();
        int last = 0;
        for (int k = 0; k < growth.total; k++) {
            if (growth.kind[k] == BREAKS && growth.over[k] * growth.endUnder == growth.endOver * growth.under[k]) {
                last++;
            }
        }
        told.size = 0;
        told.fraction(growth.endOver, growth.endUnder);
        return last;
    }

    public int order() {
        growth.run();
        told.size = 0;
        for (int k = 0; k < growth.total; k++) {
            if (growth.kind[k] == BREAKS) {
                told.whole(growth.who[k]);
            }
        }
        return told.size;
    }

    public int when(int kind, int i) {
        if (!within(kind, BEGINS, BREAKS) || !built.has(i)) {
            return NONE;
        }
        growth.run();
        int k = growth.find(kind, i);
        if (k < 0) {
            return NOT_SO;
        }
        told.size = 0;
        told.fraction(growth.over[k], growth.under[k]);
        return 0;
    }

    public int sheds(int i) {
        if (!built.has(i)) {
            return NONE;
        }
        growth.run();
        int k = growth.find(BREAKS, i);
        if (k < 0) {
            return NOT_SO;
        }
        int ahead = growth.leftAhead(k);
        int behind = ahead & ~(1 << i);
        if (behind == 0) {
            return NOT_SO;
        }
        growth.compareForces(ahead, behind, growth.over[k], growth.under[k]);
        return tellGains(behind);
    }

    public int replays() {
        growth.run();
        int fault = text.findOrderFault(built.bolts);
        int size = text.size;
        int breaking = growth.countOf(BREAKS);
        int same = 0;
        while (same < size && same < breaking && text.digitAt(same) == growth.brokenAs(same)) {
            same++;
        }
        text.size = 0;
        if (fault >= 0) {
            return -1 - fault;
        }
        told.size = 0;
        told.whole(same == size && same == breaking ? 1 : 0);
        return same;
    }

    // ---- what would be

    public int without(int i) {
        if (!built.has(i)) {
            return NONE;
        }
        if (built.out[i]) {
            return NOT_SO;
        }
        growth.run();
        trial.copyAll(built);
        trial.out[i] = true;
        guessPeak();
        told.size = 0;
        told.fraction(guess.endOver, guess.endUnder);
        return 1 + guess.comparePeak(growth.endOver, growth.endUnder);
    }

    public int tunes(int i) {
        if (!built.has(i)) {
            return NONE;
        }
        trial.copyAll(built);
        int best = 0;
        long over = -1;
        long under = 1;
        for (int c = 0; c <= MOST_CLEAR; c++) {
            trial.clear[i] = c;
            guessPeak();
            if (guess.comparePeak(over, under) > 0) {
                best = c;
                over = guess.endOver;
                under = guess.endUnder;
            }
        }
        told.size = 0;
        told.fraction(over, under);
        return best;
    }

    public int arranges() {
        if (built.bolts == 0) {
            return NONE;
        }
        trial.copyAll(built);
        for (int i = 0; i < built.bolts; i++) {
            seats[i] = i;
        }
        long over = -1;
        long under = 1;
        boolean more = true;
        // 120 orders of five bolts at most
        for (int k = 0; k < 120 && more; k++) {
            seat();
            guessPeak();
            if (guess.comparePeak(over, under) > 0) {
                System.arraycopy(seats, 0, bestSeats, 0, built.bolts);
                over = guess.endOver;
                under = guess.endUnder;
            }
            more = nextSeats();
        }
        return tellSeats(over, under);
    }

    public int fits(int p) {
        if (!isLoad(p) || built.bolts == 0) {
            return NONE;
        }
        trial.copyAll(built);
        for (int c = MOST_CLEAR; c >= 0; c--) {
            for (int i = 0; i < built.bolts; i++) {
                trial.clear[i] = Math.min(built.clear[i], c);
            }
            guessPeak();
            if (guess.comparePeak(p, 1) >= 0) {
                told.size = 0;
                told.fraction(guess.endOver, guess.endUnder);
                return c;
            }
        }
        return NOT_SO;
    }

    public int chance(int seed, int n, int p) {
        if (!within(n, 1, MOST_DRAWS) || !isLoad(p) || built.bolts == 0) {
            return NONE;
        }
        trial.copyAll(built);
        int drawn = seed;
        int enough = 0;
        // No peak is above the load that breaks all bolts together, so the first one is less.
        long over = MOST_LOAD + 1;
        long under = 1;
        for (int k = 0; k < n; k++) {
            for (int i = 0; i < built.bolts; i++) {
                drawn = drawn * 1103515245 + 12345;
                trial.clear[i] = (drawn >>> 16) % 10;
            }
            guessPeak();
            if (guess.comparePeak(p, 1) >= 0) {
                enough++;
            }
            if (guess.comparePeak(over, under) < 0) {
                over = guess.endOver;
                under = guess.endUnder;
            }
        }
        told.size = 0;
        told.fraction(over, under);
        return enough;
    }

    // ---- counts

    public int count(int what) {
        switch (what) {
            case 0:
                return built.bolts;
            case 1:
                return Integer.bitCount(built.soundBits());
            case 2:
                return built.breaksTogether();
            case 3:
                return built.leastClear(built.soundBits());
            case 4:
                growth.run();
                return growth.total;
            case 5:
                return told.size;
            case 6:
                return text.size;
            case 7:
                return built.upper;
            case 8:
                return built.lower;
            default:
                return NONE;
        }
    }

    public long row(int i) throws NoSuchElementException {
        if (i < 0 || i >= told.size || i >= told.numbers.length) {
            throw new NoSuchElementException();
        }
        return told.numbers[i];
    }

    // ---- helpers of the calls

    private static boolean within(int v, int least, int most) {
        return v >= least && v <= most;
    }

    private static boolean isLoad(int p) {
        return within(p, 0, MOST_LOAD);
    }

    private static boolean fair(int give, int clear, int yield, int soft, int breaks) {
        return within(give, 1, 5) && within(clear, 0, MOST_CLEAR) && within(yield, 1, 30)
            && within(soft, give, 9) && within(breaks, yield + 1, 60);
    }

    /** Comes to a load: 0 if the state there is settled now, else what a call that asks for it answers. */
    private int come(int p, boolean asksFair) {
        if (!isLoad(p) || !asksFair) {
            return NONE;
        }
        growth.run();
        if (growth.comparePeak(p, 1) <= 0) {
            return GONE;
        }
        growth.settle(growth.leftAfter(p), p, 1);
        return 0;
    }

    private void guessPeak() {
        guess.known = false;
        guess.run();
    }

    /** Asks for what come(p) has settled. */
    private int bearingAt(int p) {
        int bits = 0;
        for (int i = 0; i < built.bolts; i++) {
            if (growth.lines.forceAt(i, p, 1) > 0) {
                bits |= 1 << i;
            }
        }
        return bits;
    }

    private long boltWork(int i, int p) {
        long f = growth.lines.forceAt(i, p, 1);
        long y = built.yieldAt[i] * growth.lines.under;
        if (f <= y) {
            return built.give[i] * f * f;
        }
        return built.give[i] * y * y + built.soft[i] * (f * f - y * y);
    }

    private long plateWork(int i, int p) {
        if (!built.hasGap(i)) {
            return 0;
        }
        long below = growth.lines.borneAt(i, p);
        long above = p * growth.lines.under - below;
        return built.pitches[i] * (built.upper * above * above + built.lower * below * below);
    }

    private int tellGains(int behind) {
        long common = growth.gainUnder;
        for (int k = 0; k < built.bolts; k++) {
            common = divisor(common, growth.gains[k]);
        }
        if (common == 0) {
            common = 1;
        }
        int best = -1;
        told.size = 0;
        told.whole(growth.gainUnder / common);
        for (int k = 0; k < built.bolts; k++) {
            boolean left = (behind >> k & 1) == 1;
            told.whole(left ? growth.gains[k] / common : 0);
            if (left && (best < 0 || growth.gains[k] > growth.gains[best])) {
                best = k;
            }
        }
        return best;
    }

    private void seat() {
        for (int i = 0; i < built.bolts; i++) {
            trial.copyBolt(built, seats[i], i);
        }
    }

    /** The order that comes next when orders stand as words do in a dictionary; false behind the last one. */
    private boolean nextSeats() {
        int from = built.bolts - 2;
        while (from >= 0 && seats[from] > seats[from + 1]) {
            from--;
        }
        if (from < 0) {
            return false;
        }
        int to = built.bolts - 1;
        while (to > from && seats[to] < seats[from]) {
            to--;
        }
        changeSeats(from, to);
        int low = from + 1;
        int high = built.bolts - 1;
        while (low < high) {
            changeSeats(low, high);
            low++;
            high--;
        }
        return true;
    }

    private void changeSeats(int i, int k) {
        int held = seats[i];
        seats[i] = seats[k];
        seats[k] = held;
    }

    private int tellSeats(long over, long under) {
        boolean other = false;
        told.size = 0;
        for (int i = 0; i < built.bolts; i++) {
            told.whole(bestSeats[i]);
            other |= bestSeats[i] != i;
        }
        told.fraction(over, under);
        return other ? 1 : 0;
    }

    /** The greatest number by which both can be divided; 0 if both are 0. */
    private static long divisor(long a, long b) {
        long x = a < 0 ? -a : a;
        long y = b < 0 ? -b : b;
        // 64 bits need fewer than a hundred steps
        for (int k = 0; k < 100 && y != 0; k++) {
            long left = x % y;
            x = y;
            y = left;
        }
        return x;
    }

    /** The numbers told last. */
    private static final class Row {
        final long[] numbers = new long[ROW_ROOM];
        int size;

        void whole(long v) {
            if (size < numbers.length) {
                numbers[size++] = v;
            }
        }

        void fraction(long over, long under) {
            long common = divisor(over, under);
            if (common == 0) {
                common = 1;
            }
            whole(over / common);
            whole(under / common);
        }
    }

    /** What is built: bolts, plates, pitches. */
    private static final class Joint {
        final int[] give = new int[MOST_BOLTS];
        final int[] clear = new int[MOST_BOLTS];
        final int[] yieldAt = new int[MOST_BOLTS];
        final int[] soft = new int[MOST_BOLTS];
        final int[] breakAt = new int[MOST_BOLTS];
        final boolean[] out = new boolean[MOST_BOLTS];
        final int[] pitches = new int[MOST_BOLTS];
        int bolts;
        int upper = 1;
        int lower = 1;

        boolean has(int i) {
            return i >= 0 && i < bolts && i < MOST_BOLTS;
        }

        boolean hasGap(int i) {
            return has(i) && has(i + 1);
        }

        void write(int i, int g, int c, int y, int s, int u) {
            give[i] = g;
            clear[i] = c;
            yieldAt[i] = y;
            soft[i] = s;
            breakAt[i] = u;
        }

        void add(int g, int c, int y, int s, int u) {
            if (bolts >= MOST_BOLTS) {
                return;
            }
            if (bolts > 0) {
                pitches[bolts - 1] = 1;
            }
            out[bolts] = false;
            write(bolts, g, c, y, s, u);
            bolts++;
        }

        void copyBolt(Joint from, int k, int i) {
            write(i, from.give[k], from.clear[k], from.yieldAt[k], from.soft[k], from.breakAt[k]);
            out[i] = from.out[k];
        }

        void copyAll(Joint from) {
            bolts = from.bolts;
            upper = from.upper;
            lower = from.lower;
            for (int i = 0; i < bolts && i < MOST_BOLTS; i++) {
                copyBolt(from, i, i);
                pitches[i] = from.pitches[i];
            }
        }

        int soundBits() {
            int bits = 0;
            for (int i = 0; i < bolts; i++) {
                bits |= out[i] ? 0 : 1 << i;
            }
            return bits;
        }

        int breaksTogether() {
            int sum = 0;
            for (int i = 0; i < bolts; i++) {
                sum += out[i] ? 0 : breakAt[i];
            }
            return sum;
        }

        int leastClear(int bits) {
            int least = NONE;
            for (int i = 0; i < bolts; i++) {
                if ((bits >> i & 1) == 1 && (least == NONE || clear[i] < least)) {
                    least = clear[i];
                }
            }
            return least;
        }
    }

    /**
     * Forces and slips while each bolt keeps to one straight line: each is (rise times load and start) by under.
     * All bolts have one under, since it is the determinant of the whole system.
     */
    private static final class Lines {
        final Joint joint;
        // A bolt that bears has slip = rest + stretch * force; stretch 0 is for one that bears nothing.
        final int[] stretch = new int[MOST_BOLTS];
        final long[] rest = new long[MOST_BOLTS];
        final long[] forceRise = new long[MOST_BOLTS];
        final long[] forceStart = new long[MOST_BOLTS];
        final long[] slipRise = new long[MOST_BOLTS];
        final long[] slipStart = new long[MOST_BOLTS];
        long under = 1;
        // While under way each slip is (byFirst * slip of bolt 0 + byLoad * load + bare) / scale.
        private final long[] byFirst = new long[MOST_BOLTS];
        private final long[] byLoad = new long[MOST_BOLTS];
        private final long[] bare = new long[MOST_BOLTS];
        private final long[] scale = new long[MOST_BOLTS];
        private long firstRise;
        private long firstStart;

        Lines(Joint joint) {
            this.joint = joint;
        }

        /** From bolt to bolt with the slip of bolt 0 unknown; all forces together being the load tells it at the end. */
        void walk() {
            long m = 1;
            long x = 1;
            long p = 0;
            long c = 0;
            long borneX = 0;
            long borneP = 0;
            long borneC = 0;
            int both = joint.upper + joint.lower;
            for (int i = 0; i < joint.bolts; i++) {
                byFirst[i] = x;
                byLoad[i] = p;
                bare[i] = c;
                scale[i] = m;
                int k = stretch[i];
                if (k > 0) {
                    borneX = borneX * k + x;
                    borneP = borneP * k + p;
                    borneC = borneC * k + c - rest[i] * m;
                    x *= k;
                    p *= k;
                    c *= k;
                    m *= k;
                }
                int w = i + 1 < joint.bolts ? joint.pitches[i] : 0;
                x += w * both * borneX;
                p += w * both * borneP - w * joint.upper * m;
                c += w * both * borneC;
            }
            under = borneX > 0 ? borneX : 1;
            firstRise = m - borneP;
            firstStart = -borneC;
        }

        /** What walk() has found, without the unknown; its divisions leave nothing over, as under is the determinant. */
        void fill() {
            for (int i = 0; i < joint.bolts; i++) {
                long m = scale[i] > 0 ? scale[i] : 1;
                slipRise[i] = (byFirst[i] * firstRise + byLoad[i] * under) / m;
                slipStart[i] = (byFirst[i] * firstStart + bare[i] * under) / m;
                int k = stretch[i];
                forceRise[i] = k > 0 ? slipRise[i] / k : 0;
                forceStart[i] = k > 0 ? (slipStart[i] - rest[i] * under) / k : 0;
            }
        }

        /** Over of the force at a load; its under is ours times that of the load. */
        long forceAt(int i, long loadOver, long loadUnder) {
            return forceRise[i] * loadOver + forceStart[i] * loadUnder;
        }

        long slipAt(int i, long loadOver, long loadUnder) {
            return slipRise[i] * loadOver + slipStart[i] * loadUnder;
        }

        long borneAt(int i, long load) {
            long sum = 0;
            for (int k = 0; k <= i && k < joint.bolts; k++) {
                sum += forceAt(k, load, 1);
            }
            return sum;
        }
    }

    /** Load that grows: all events, and the state of any bolts at any load. */
    private static final class Growth {
        // Each bolt begins, yields and breaks once.
        private static final int MOST_EVENTS = KINDS * MOST_BOLTS;

        final Joint joint;
        final Lines lines;
        final int[] way = new int[MOST_BOLTS];
        private final int[] wayBefore = new int[MOST_BOLTS];

        // Whether what follows holds for the joint as it is.
        boolean known;
        int total;
        final int[] kind = new int[MOST_EVENTS];
        final int[] who = new int[MOST_EVENTS];
        final long[] over = new long[MOST_EVENTS];
        final long[] under = new long[MOST_EVENTS];
        // The load that has been reached, in the end the peak.
        long endOver;
        long endUnder = 1;

        // The load at which each bolt would leave its line (under 0: none), and the least of them.
        private final long[] dueOver = new long[MOST_BOLTS];
        private final long[] dueUnder = new long[MOST_BOLTS];
        private long soonOver;
        private long soonUnder;

        final long[] gains = new long[MOST_BOLTS];
        long gainUnder = 1;

        Growth(Joint joint) {
            this.joint = joint;
            this.lines = new Lines(joint);
        }

        void run() {
            if (known) {
                return;
            }
            known = true;
            total = 0;
            endOver = 0;
            endUnder = 1;
            int left = joint.soundBits();
            start(left);
            for (int i = 0; i < joint.bolts; i++) {
                if (way[i] == ELASTIC) {
                    note(BEGINS, i);
                }
            }
            // Each step has one event at least.
            for (int step = 0; step < MOST_EVENTS && left != 0; step++) {
                if (!seek(true)) {
                    return;
                }
                reach(soonOver, soonUnder);
                noteDue(IDLE, BEGINS);
                noteDue(ELASTIC, YIELDS);
                int breaking = firstDue(PLASTIC);
                raiseDue();
                left = breakOn(breaking, left);
            }
        }

        /** The state of the bolts told by bits, none other there, at a load: lines are theirs then. */
        void settle(int bits, long loadOver, long loadUnder) {
            start(bits);
            for (int step = 0; step <= MOST_EVENTS; step++) {
                // What is due at the load itself has no force, or not above its yield, yet.
                if (!seek(false) || soonOver * loadUnder >= loadOver * soonUnder) {
                    return;
                }
                raiseDue();
            }
        }

        /** By how much forces of those that are left are more without the one that is not, over gainUnder. */
        void compareForces(int ahead, int behind, long loadOver, long loadUnder) {
            settle(ahead, loadOver, loadUnder);
            long first = lines.under;
            for (int i = 0; i < joint.bolts; i++) {
                gains[i] = lines.forceAt(i, loadOver, loadUnder);
            }
            settle(behind, loadOver, loadUnder);
            for (int i = 0; i < joint.bolts; i++) {
                boolean left = (behind >> i & 1) == 1;
                gains[i] = left ? lines.forceAt(i, loadOver, loadUnder) * first - gains[i] * lines.under : 0;
            }
            gainUnder = first * lines.under * loadUnder;
        }

        /** Above 0 if the peak is more than the load told, below 0 if it is less. */
        int comparePeak(long loadOver, long loadUnder) {
            return Long.compare(endOver * loadUnder, loadOver * endUnder);
        }

        int countOf(int what) {
            int sum = 0;
            for (int k = 0; k < total; k++) {
                sum += kind[k] == what ? 1 : 0;
            }
            return sum;
        }

        int find(int what, int i) {
            for (int k = 0; k < total; k++) {
                if (kind[k] == what && who[k] == i) {
                    return k;
                }
            }
            return NONE;
        }

        /** The bolt that is broken as number n, NONE if there is no such one. */
        int brokenAs(int n) {
            int seen = 0;
            for (int k = 0; k < total; k++) {
                if (kind[k] == BREAKS) {
                    if (seen == n) {
                        return who[k];
                    }
                    seen++;
                }
            }
            return NONE;
        }

        int leftAhead(int event) {
            int left = joint.soundBits();
            for (int k = 0; k < event && k < total; k++) {
                if (kind[k] == BREAKS) {
                    left &= ~(1 << who[k]);
                }
            }
            return left;
        }

        int leftAfter(int p) {
            int left = joint.soundBits();
            for (int k = 0; k < total; k++) {
                if (kind[k] == BREAKS && over[k] <= p * under[k]) {
                    left &= ~(1 << who[k]);
                }
            }
            return left;
        }

        private void start(int bits) {
            int least = joint.leastClear(bits);
            for (int i = 0; i < joint.bolts; i++) {
                if ((bits >> i & 1) == 1) {
                    way[i] = joint.clear[i] == least ? ELASTIC : IDLE;
                } else {
                    way[i] = joint.out[i] ? OUT : BROKEN;
                }
            }
        }

        /** Whether there is a next load at which a bolt leaves its line; breaking tells whether to look for breaks, too. */
        private boolean seek(boolean breaking) {
            for (int i = 0; i < joint.bolts; i++) {
                layLine(i);
            }
            lines.walk();
            lines.fill();
            soonUnder = 0;
            for (int i = 0; i < joint.bolts; i++) {
                seekDue(i, breaking);
                if (dueUnder[i] > 0 && (soonUnder == 0 || dueOver[i] * soonUnder < soonOver * dueUnder[i])) {
                    soonOver = dueOver[i];
                    soonUnder = dueUnder[i];
                }
            }
            return soonUnder > 0;
        }

        private void layLine(int i) {
            lines.rest[i] = joint.clear[i];
            lines.stretch[i] = 0;
            if (way[i] == ELASTIC) {
                lines.stretch[i] = joint.give[i];
            } else if (way[i] == PLASTIC) {
                lines.stretch[i] = joint.soft[i];
                lines.rest[i] = joint.clear[i] + (joint.give[i] - joint.soft[i]) * joint.yieldAt[i];
            }
        }

        private void seekDue(int i, boolean breaking) {
            dueUnder[i] = 0;
            if (way[i] == IDLE) {
                dueOver[i] = joint.clear[i] * lines.under - lines.slipStart[i];
                dueUnder[i] = lines.slipRise[i];
            } else if (way[i] == ELASTIC || way[i] == PLASTIC && breaking) {
                int end = way[i] == ELASTIC ? joint.yieldAt[i] : joint.breakAt[i];
                dueOver[i] = end * lines.under - lines.forceStart[i];
                dueUnder[i] = lines.forceRise[i];
            }
        }

        private boolean isDue(int i) {
            return dueUnder[i] > 0 && dueOver[i] * soonUnder == soonOver * dueUnder[i];
        }

        private void raiseDue() {
            for (int i = 0; i < joint.bolts; i++) {
                if (isDue(i) && way[i] < PLASTIC) {
                    way[i]++;
                }
            }
        }

        private int firstDue(int ofWay) {
            for (int i = 0; i < joint.bolts; i++) {
                if (way[i] == ofWay && isDue(i)) {
                    return i;
                }
            }
            return NONE;
        }

        private void noteDue(int ofWay, int what) {
            for (int i = 0; i < joint.bolts; i++) {
                if (way[i] == ofWay && isDue(i)) {
                    note(what, i);
                }
            }
        }

        private void reach(long loadOver, long loadUnder) {
            long common = divisor(loadOver, loadUnder);
            if (common > 0) {
                endOver = loadOver / common;
                endUnder = loadUnder / common;
            }
        }

        private void note(int what, int i) {
            if (total < MOST_EVENTS) {
                kind[total] = what;
                who[total] = i;
                over[total] = endOver;
                under[total] = endUnder;
                total++;
            }
        }

        /** Breaks the bolt told, and all that break by it at this load: the bits of those that are left. */
        private int breakOn(int first, int bits) {
            int left = bits;
            int breaking = first;
            for (int k = 0; k < MOST_BOLTS && breaking >= 0; k++) {
                note(BREAKS, breaking);
                left &= ~(1 << breaking);
                if (left == 0) {
                    return 0;
                }
                System.arraycopy(way, 0, wayBefore, 0, MOST_BOLTS);
                settle(left, endOver, endUnder);
                noteRaised(IDLE, BEGINS);
                noteRaised(ELASTIC, YIELDS);
                breaking = mostOverloaded();
            }
            return left;
        }

        private void noteRaised(int ofWay, int what) {
            for (int i = 0; i < joint.bolts; i++) {
                if (wayBefore[i] <= ofWay && way[i] > ofWay && way[i] <= PLASTIC) {
                    note(what, i);
                }
            }
        }

        private int mostOverloaded() {
            int worst = NONE;
            long worstForce = 0;
            for (int i = 0; i < joint.bolts; i++) {
                long force = way[i] == PLASTIC ? lines.forceAt(i, endOver, endUnder) : 0;
                boolean breaking = force > 0 && force >= joint.breakAt[i] * lines.under * endUnder;
                if (breaking && (worst < 0 || force * joint.breakAt[worst] > worstForce * joint.breakAt[i])) {
                    worst = i;
                    worstForce = force;
                }
            }
            return worst;
        }
    }

    /** Load that falls from a whole load: bolts go back along their first give, from what is set. */
    private static final class Fall {
        final Joint joint;
        final Growth growth;
        // Sets over unit: while load falls, loads and slips are told in parts of unit.
        final long[] sets = new long[MOST_BOLTS];
        long unit = 1;
        long openOver;
        long openUnder = 1;
        private final long[] forces = new long[MOST_BOLTS];
        private int left;

        Fall(Joint joint, Growth growth) {
            this.joint = joint;
            this.growth = growth;
        }

        /** Reads the state that growth has settled at p. */
        void startFrom(int bits, int p) {
            left = bits;
            unit = growth.lines.under;
            for (int i = 0; i < joint.bolts; i++) {
                forces[i] = growth.lines.forceAt(i, p, 1);
                long beyond = forces[i] - joint.yieldAt[i] * unit;
                sets[i] = joint.clear[i] * unit;
                if (beyond > 0) {
                    sets[i] += (joint.soft[i] - joint.give[i]) * beyond;
                }
            }
        }

        /**
         * Bolts that would have to pull let go, all at once: none of them comes back, since each that lets go
         * lessens the slips of all.
         */
        void comeTo(int q) {
            int holding = left;
            for (int k = 0; k <= MOST_BOLTS; k++) {
                layLines(holding);
                int pulling = 0;
                for (int i = 0; i < joint.bolts; i++) {
                    if (growth.lines.forceAt(i, q * unit, 1) < 0) {
                        pulling |= 1 << i;
                    }
                }
                if (pulling == 0) {
                    return;
                }
                holding &= ~pulling;
            }
        }

        /** The bolt whose force is first 0, NONE if none has one; the load stands in openOver, openUnder then. */
        int seekOpening(int bearing, int p) {
            layLines(bearing);
            int first = NONE;
            long rise = 1;
            for (int i = 0; i < joint.bolts; i++) {
                long rises = growth.lines.forceRise[i];
                if (rises > 0 && (first < 0 || forces[i] * rise < forces[first] * rises)) {
                    first = i;
                    rise = rises;
                }
            }
            if (first >= 0) {
                openUnder = unit * rise;
                openOver = p * openUnder - forces[first] * growth.lines.under;
            }
            return first;
        }

        private void layLines(int holding) {
            for (int i = 0; i < joint.bolts; i++) {
                growth.lines.stretch[i] = (holding >> i & 1) == 1 ? joint.give[i] : 0;
                growth.lines.rest[i] = sets[i];
            }
            growth.lines.walk();
            growth.lines.fill();
        }
    }

    /** THE TEXT, and what it is read as. */
    private static final class Script {
        final int[] signs = new int[MOST_SIGNS];
        int size;
        // While it is read: the next sign, and the first that can't stand where it is (NONE if all can so far).
        private int next;
        private int fault;

        boolean addFour(int v) {
            if (size + 4 > MOST_SIGNS) {
                return false;
            }
            for (int shift = 24; shift >= 0; shift -= 8) {
                signs[size++] = v >>> shift & 255;
            }
            return true;
        }

        boolean cut(int n) {
            if (n < 0 || n > size) {
                return false;
            }
            size = n;
            return true;
        }

        /** What digit a sign is, NONE if it is none. */
        int digitAt(int k) {
            if (k < 0 || k >= size || k >= MOST_SIGNS) {
                return NONE;
            }
            return signs[k] >= '0' && signs[k] <= '9' ? signs[k] - '0' : NONE;
        }

        /** The first sign that is no bolt's digit, or one told before; NONE if all can stand. */
        int findOrderFault(int bolts) {
            int seen = 0;
            for (int k = 0; k < size; k++) {
                int digit = digitAt(k);
                if (digit < 0 || digit >= bolts || (seen >> digit & 1) == 1) {
                    return k;
                }
                seen |= 1 << digit;
            }
            return NONE;
        }

        /** The first sign that can't stand in a joint; NONE if all can, and the joint is read then. */
        int readJoint(Joint into) {
            next = 0;
            fault = NONE;
            into.bolts = 0;
            into.upper = readNumber(1, 0, MOST_GIVEN);
            into.lower = readNumber(1, 0, MOST_GIVEN);
            readBolt(into);
            for (int k = 0; k < MOST_BOLTS && fault < 0 && next < size; k++) {
                if (signs[next] != '/' || !into.has(k) || into.bolts >= MOST_BOLTS) {
                    fault = next;
                } else {
                    next++;
                    int w = readNumber(1, 0, MOST_PITCHES);
                    readBolt(into);
                    into.pitches[k] = w;
                }
            }
            return fault;
        }

        private void readBolt(Joint into) {
            int give = readNumber(1, 1, 5);
            int clear = readNumber(1, 0, MOST_CLEAR);
            int yieldAt = readNumber(2, 1, 30);
            int soft = readNumber(2, give, 9);
            int breakAt = readNumber(2, yieldAt + 1, 60);
            into.add(give, clear, yieldAt, soft, breakAt);
        }

        /** Behind a fault nothing is read any more. */
        private int readNumber(int digits, int least, int most) {
            int value = 0;
            for (int k = 0; k < digits && fault < 0; k++) {
                int digit = digitAt(next);
                if (digit < 0) {
                    fault = next;
                } else {
                    value = 10 * value + digit;
                    next++;
                }
            }
            if (fault < 0 && !within(value, least, most)) {
                fault = next - 1;
            }
            return fault < 0 ? value : least;
        }
    }
}
