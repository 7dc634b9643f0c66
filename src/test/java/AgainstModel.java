import java.math.BigInteger;
import java.util.ArrayList;
import java.util.List;
import java.util.NoSuchElementException;

/**
 * Runs of many calls, each answered by BoltRow and by a model that works in another way: it tries every way that
 * bolts can be in (idle, elastic, plastic), solves the equations of the document for each with fractions of any size,
 * and keeps the loads for which what comes out is so.
 */
public final class AgainstModel {
    private static int wrong = 0;
    private static long calls = 0;

    public static void main(String[] args) {
        int runs = args.length > 0 ? Integer.parseInt(args[0]) : 60;
        long seed = args.length > 1 ? Long.parseLong(args[1]) : 1;
        for (int run = 0; run < runs && wrong < 10; run++) {
            new Session(seed * 1000003 + run).play(run);
        }
        System.out.println("AgainstModel: " + calls + " calls, " + wrong + " wrong");
        if (wrong != 0) {
            System.exit(1);
        }
    }

    /** A run of calls with numbers of a small generator of its own. */
    private static final class Session {
        private long drawn;
        private final BoltRow real = new BoltRow();
        private final Model model = new Model();
        private final StringBuilder told = new StringBuilder();

        Session(long seed) {
            drawn = seed * 2862933555777941757L + 3037000493L;
        }

        private int draw(int n) {
            drawn = drawn * 6364136223846793005L + 1442695040888963407L;
            return (int) ((drawn >>> 33) % n);
        }

        private int wild(int least, int most) {
            return draw(25) == 0 ? (draw(2) == 0 ? least - 1 - draw(3) : most + 1 + draw(3)) : least + draw(most - least + 1);
        }

        void play(int run) {
            int most = 1 + draw(5);
            int style = draw(4);
            if (draw(3) > 0) {
                plates(draw(3), draw(3));
            }
            for (int i = 0; i < most; i++) {
                bolt(style);
            }
            for (int i = 0; i + 1 < most; i++) {
                if (draw(2) == 0) {
                    pitch(i, draw(3));
                }
            }
            int wrongBefore = wrong;
            for (int k = 0; k < 90; k++) {
                step(style);
                if (wrong > wrongBefore) {
                    System.out.println("run " + run + ":" + told);
                    return;
                }
            }
        }

        private void check(String call, long got, long want) {
            calls++;
            told.append(' ').append(call);
            if (got != want) {
                wrong++;
                System.out.println(call + " answered " + got + ", due is " + want);
            }
            checkRow(call);
        }

        private void checkRow(String call) {
            int size = model.row.size();
            for (int i = -1; i <= size; i++) {
                Long got;
                try {
                    got = real.row(i);
                } catch (NoSuchElementException e) {
                    got = null;
                }
                Long want = i >= 0 && i < size ? Long.valueOf(model.row.get(i).longValueExact()) : null;
                if (got == null ? want != null : !got.equals(want)) {
                    wrong++;
                    System.out.println(call + ": row(" + i + ") is " + got + ", due is " + want);
                }
            }
        }

        private void plates(int a, int b) {
            check("plates(" + a + "," + b + ")", real.plates(a, b), model.plates(a, b));
        }

        private void pitch(int i, int w) {
            check("pitch(" + i + "," + w + ")", real.pitch(i, w), model.pitch(i, w));
        }

        // Few kinds of numbers make many bolts alike, so that much comes at one load.
        private int[] five(int style) {
            int g = style == 0 ? 1 + draw(2) : style == 1 ? 5 : wild(1, 5);
            int c = style == 0 ? draw(2) : style == 1 ? draw(2) * 9 : wild(0, 9);
            int y = style == 0 ? 2 + 2 * draw(2) : style == 1 ? 30 - draw(2) * 29 : wild(1, 30);
            int s = style == 0 ? g + draw(2) : style == 1 ? 9 : wild(Math.max(1, Math.min(g, 9)), 9);
            int u = style == 0 ? y + 2 + 2 * draw(3) : style == 1 ? 60 - draw(3) : wild(Math.max(0, Math.min(y, 59)) + 1, 60);
            return new int[] {g, c, y, s, u};
        }

        private void bolt(int style) {
            int[] v = five(style);
            check("bolt(" + v[0] + "," + v[1] + "," + v[2] + "," + v[3] + "," + v[4] + ")",
                real.bolt(v[0], v[1], v[2], v[3], v[4]), model.bolt(v[0], v[1], v[2], v[3], v[4]));
        }

        private int load() {
            int d = draw(10);
            if (d == 0) {
                return 0;
            }
            if (d == 1) {
                return wild(0, 300);
            }
            int top = model.joint.breaksTogether();
            // Loads at and next to an event are the ones at which answers change.
            if (d < 6 && !model.events.isEmpty()) {
                Q p = model.events.get(draw(model.events.size())).p;
                return p.over.divide(p.under).intValue() + draw(2);
            }
            return draw(Math.max(1, top));
        }

        private int who() {
            return wild(0, Math.max(0, model.joint.n() - 1));
        }

        private void step(int style) {
            int d = draw(100);
            int i = who();
            if (d < 3) {
                bolt(style);
            } else if (d < 6) {
                int[] v = draw(8) == 0 && model.joint.has(i) ? model.joint.bolts.get(i).v.clone() : five(style);
                check("alters(" + i + ",..)", real.alters(i, v[0], v[1], v[2], v[3], v[4]),
                    model.alters(i, v[0], v[1], v[2], v[3], v[4]));
            } else if (d < 9) {
                pitch(i, wild(0, 2));
            } else if (d < 11) {
                plates(wild(0, 2), wild(0, 2));
            } else if (d < 14) {
                boolean out = draw(3) == 0;
                check("takes(" + i + "," + out + ")", real.takes(i, out), model.takes(i, out));
            } else if (d < 16) {
                int k = who();
                check("swaps(" + i + "," + k + ")", real.swaps(i, k) ? 1 : 0, model.swaps(i, k) ? 1 : 0);
            } else if (d < 17) {
                if (draw(6) == 0) {
                    check("clears()", real.clears(), model.clears());
                }
            } else if (d < 22) {
                text();
            } else if (d < 62) {
                atLoad(i);
            } else if (d < 80) {
                growing(i);
            } else if (d < 90) {
                whatWouldBe(i);
            } else {
                counts(i);
            }
        }

        private void text() {
            String s;
            int d = draw(3);
            if (d == 0) {
                StringBuilder order = new StringBuilder();
                for (Event e : model.events) {
                    if (e.kind == 2) {
                        order.append((char) ('0' + e.who));
                    }
                }
                if (order.length() > 0 && draw(2) == 0) {
                    order.setCharAt(draw(order.length()), (char) ('0' + draw(6)));
                }
                if (draw(3) == 0) {
                    order.setLength(draw(order.length() + 1));
                }
                s = order.toString();
            } else {
                s = jointText();
            }
            for (int k = 0; k < s.length(); k += 4) {
                int v = 0;
                for (int j = 0; j < 4; j++) {
                    v = v << 8 | (k + j < s.length() ? s.charAt(k + j) : draw(256));
                }
                check("sign(" + v + ")", real.sign(v), model.sign(v));
            }
            int n = draw(10) == 0 ? draw(90) - 4 : s.length();
            check("end(" + n + ")", real.end(n) ? 1 : 0, model.end(n) ? 1 : 0);
            check("count(6)", real.count(6), model.count(6));
            if (d == 0) {
                check("replays()", real.replays(), model.replays());
            } else {
                check("joint()", real.joint(), model.readJoint());
            }
            check("count(6)", real.count(6), model.count(6));
        }

        private String jointText() {
            StringBuilder s = new StringBuilder();
            s.append(draw(3)).append(draw(3));
            int n = 1 + draw(6);
            for (int k = 0; k < n; k++) {
                if (k > 0) {
                    s.append('/').append(draw(3));
                }
                int g = 1 + draw(5);
                int y = 1 + draw(30);
                s.append(g).append(draw(10)).append(two(y)).append(two(g + draw(10 - g))).append(two(y + 1 + draw(60 - y)));
            }
            if (draw(2) == 0) {
                s.setCharAt(draw(s.length()), draw(3) == 0 ? (char) draw(256) : draw(2) == 0 ? '/' : (char) ('0' + draw(10)));
            }
            if (draw(4) == 0) {
                s.setLength(draw(s.length() + 1));
            }
            return s.toString();
        }

        private static String two(int v) {
            return v < 10 ? "0" + v : "" + v;
        }

        private void atLoad(int i) {
            int p = load();
            String at = "(" + p + "," + i + ")";
            switch (draw(12)) {
                case 0 -> check("force" + at, real.force(p, i), model.force(p, i));
                case 1 -> check("slip" + at, real.slip(p, i), model.slip(p, i));
                case 2 -> check("bears" + at, real.bears(p, i), model.bears(p, i));
                case 3 -> check("stretch(" + p + ")", real.stretch(p), model.stretch(p));
                case 4 -> check("state" + at, real.state(p, i), model.state(p, i));
                case 5 -> check("idle(" + p + ")", real.idle(p), model.idle(p));
                case 6 -> check("hardest(" + p + ")", real.hardest(p), model.hardest(p));
                case 7 -> check("margin(" + p + ")", real.margin(p), model.margin(p));
                case 8 -> check("work(" + p + ")", real.work(p), model.work(p));
                case 9 -> check("set" + at, real.set(p, i), model.set(p, i));
                case 10 -> {
                    int q = draw(4) == 0 ? wild(0, Math.max(0, p)) : draw(Math.max(0, p) + 1);
                    check("falls(" + p + "," + q + "," + i + ")", real.falls(p, q, i), model.falls(p, q, i));
                }
                default -> check("opens(" + p + ")", real.opens(p), model.opens(p));
            }
        }

        private void growing(int i) {
            switch (draw(6)) {
                case 0 -> check("events()", real.events(), model.events());
                case 1 -> {
                    for (int k = -1; k <= model.events.size(); k++) {
                        check("event(" + k + ")", real.event(k), model.event(k));
                    }
                }
                case 2 -> check("peak()", real.peak(), model.peak());
                case 3 -> check("order()", real.order(), model.order());
                case 4 -> {
                    int kind = wild(0, 2);
                    check("when(" + kind + "," + i + ")", real.when(kind, i), model.when(kind, i));
                }
                default -> check("sheds(" + i + ")", real.sheds(i), model.sheds(i));
            }
        }

        private void whatWouldBe(int i) {
            int p = load();
            switch (draw(model.joint.n() < 4 || draw(12) == 0 ? 5 : 4)) {
                case 0 -> check("without(" + i + ")", real.without(i), model.without(i));
                case 1 -> check("tunes(" + i + ")", real.tunes(i), model.tunes(i));
                case 2 -> check("fits(" + p + ")", real.fits(p), model.fits(p));
                case 3 -> {
                    int seed = draw(1 << 30) * 2 - draw(1 << 30);
                    int n = draw(8) == 0 ? wild(1, 40) : 1 + draw(6);
                    check("chance(" + seed + "," + n + "," + p + ")", real.chance(seed, n, p), model.chance(seed, n, p));
                }
                default -> check("arranges()", real.arranges(), model.arranges());
            }
        }

        private void counts(int i) {
            int what = wild(0, 8);
            check("count(" + what + ")", real.count(what), model.count(what));
            int of = wild(0, 6);
            Integer got;
            try {
                got = real.part(i, of);
            } catch (NoSuchElementException e) {
                got = null;
            }
            Integer want = model.part(i, of);
            check("part(" + i + "," + of + ")", got == null ? -99 : got, want == null ? -99 : want);
        }
    }

    /** A fraction of any size. */
    private static final class Q implements Comparable<Q> {
        static final Q ZERO = of(0);
        final BigInteger over;
        final BigInteger under;

        Q(BigInteger a, BigInteger b) {
            BigInteger g = a.gcd(b);
            if (b.signum() < 0) {
                g = g.negate();
            }
            over = a.divide(g);
            under = b.divide(g);
        }

        static Q of(long v) {
            return new Q(BigInteger.valueOf(v), BigInteger.ONE);
        }

        Q plus(Q o) {
            return new Q(over.multiply(o.under).add(o.over.multiply(under)), under.multiply(o.under));
        }

        Q minus(Q o) {
            return new Q(over.multiply(o.under).subtract(o.over.multiply(under)), under.multiply(o.under));
        }

        Q times(Q o) {
            return new Q(over.multiply(o.over), under.multiply(o.under));
        }

        Q times(long v) {
            return times(of(v));
        }

        Q by(Q o) {
            return new Q(over.multiply(o.under), under.multiply(o.over));
        }

        int sign() {
            return over.signum();
        }

        public int compareTo(Q o) {
            return over.multiply(o.under).compareTo(o.over.multiply(under));
        }

        boolean same(Q o) {
            return compareTo(o) == 0;
        }
    }

    private static final class Bolt {
        final int[] v;
        boolean out;

        Bolt(int[] v, boolean out) {
            this.v = v;
            this.out = out;
        }
    }

    private static final class Event {
        final int kind;
        final int who;
        final Q p;

        Event(int kind, int who, Q p) {
            this.kind = kind;
            this.who = who;
            this.p = p;
        }
    }

    /** One way of all bolts: forces and slips as lines over the load, and the loads from low to high at which it is so. */
    private static final class Way {
        int[] of;
        Q[] slipRise;
        Q[] slipStart;
        Q[] forceRise;
        Q[] forceStart;
        Q low = Q.ZERO;
        Q high = null;

        Q slip(int i, Q p) {
            return slipRise[i].times(p).plus(slipStart[i]);
        }

        Q force(int i, Q p) {
            return forceRise[i].times(p).plus(forceStart[i]);
        }

        /** rise * p + start <= 0 for what follows. */
        void atMostZero(Q rise, Q start) {
            if (rise.sign() == 0) {
                if (start.sign() > 0) {
                    high = Q.of(-1);
                }
                return;
            }
            Q bound = Q.ZERO.minus(start).by(rise);
            if (rise.sign() > 0) {
                if (high == null || bound.compareTo(high) < 0) {
                    high = bound;
                }
            } else if (bound.compareTo(low) > 0) {
                low = bound;
            }
        }

        boolean empty() {
            return high != null && high.compareTo(low) <= 0;
        }

        boolean holds(Q p) {
            return p.compareTo(low) >= 0 && (high == null || p.compareTo(high) <= 0);
        }
    }

    private static final class State {
        Q p;
        Q[] force;
        Q[] slip;

        Q borne(int i) {
            Q sum = Q.ZERO;
            for (int k = 0; k <= i; k++) {
                sum = sum.plus(force[k]);
            }
            return sum;
        }
    }

    private static final class Joint {
        List<Bolt> bolts = new ArrayList<>();
        int[] w = new int[5];
        int a = 1;
        int b = 1;

        int n() {
            return bolts.size();
        }

        boolean has(int i) {
            return i >= 0 && i < n();
        }

        Joint copy() {
            Joint j = new Joint();
            for (Bolt bolt : bolts) {
                j.bolts.add(new Bolt(bolt.v.clone(), bolt.out));
            }
            j.w = w.clone();
            j.a = a;
            j.b = b;
            return j;
        }

        int sound() {
            int bits = 0;
            for (int i = 0; i < n(); i++) {
                if (!bolts.get(i).out) {
                    bits |= 1 << i;
                }
            }
            return bits;
        }

        int breaksTogether() {
            int sum = 0;
            for (Bolt bolt : bolts) {
                sum += bolt.out ? 0 : bolt.v[4];
            }
            return sum;
        }

        /** All slips are unknown; a bolt that bears has force (slip - rest) / stretch. Null if there is no one answer. */
        Way solve(Q[] rest, int[] stretch) {
            int n = n();
            Q[][] m = new Q[n][n + 2];
            for (int i = 0; i < n; i++) {
                for (int k = 0; k < n + 2; k++) {
                    m[i][k] = Q.ZERO;
                }
            }
            for (int i = 0; i < n; i++) {
                boolean last = i == n - 1;
                // The last one: all forces together are p. Others: slips differ by what plates stretch.
                Q factor = last ? Q.of(1) : Q.of(w[i] * (a + b));
                for (int k = 0; k <= i; k++) {
                    if (stretch[k] > 0) {
                        Q part = factor.by(Q.of(stretch[k]));
                        m[i][k] = m[i][k].plus(part);
                        m[i][n + 1] = m[i][n + 1].plus(part.times(rest[k]));
                    }
                }
                if (last) {
                    m[i][n] = Q.of(1);
                } else {
                    m[i][i] = m[i][i].plus(Q.of(1));
                    m[i][i + 1] = m[i][i + 1].minus(Q.of(1));
                    m[i][n] = Q.of(w[i] * a);
                }
            }
            if (!eliminate(m, n)) {
                return null;
            }
            Way way = new Way();
            way.slipRise = new Q[n];
            way.slipStart = new Q[n];
            way.forceRise = new Q[n];
            way.forceStart = new Q[n];
            for (int i = 0; i < n; i++) {
                way.slipRise[i] = m[i][n];
                way.slipStart[i] = m[i][n + 1];
                boolean bears = stretch[i] > 0;
                way.forceRise[i] = bears ? m[i][n].by(Q.of(stretch[i])) : Q.ZERO;
                way.forceStart[i] = bears ? m[i][n + 1].minus(rest[i]).by(Q.of(stretch[i])) : Q.ZERO;
            }
            return way;
        }

        private static boolean eliminate(Q[][] m, int n) {
            for (int c = 0; c < n; c++) {
                int from = c;
                while (from < n && m[from][c].sign() == 0) {
                    from++;
                }
                if (from == n) {
                    return false;
                }
                Q[] held = m[from];
                m[from] = m[c];
                m[c] = held;
                Q pivot = m[c][c];
                for (int k = 0; k < n + 2; k++) {
                    m[c][k] = m[c][k].by(pivot);
                }
                for (int i = 0; i < n; i++) {
                    if (i != c && m[i][c].sign() != 0) {
                        Q times = m[i][c];
                        for (int k = 0; k < n + 2; k++) {
                            m[i][k] = m[i][k].minus(times.times(m[c][k]));
                        }
                    }
                }
            }
            return true;
        }

        /** All ways that hold for some loads, with the bolts of bits alone. */
        List<Way> ways(int bits) {
            int n = n();
            List<Way> all = new ArrayList<>();
            int many = 1;
            for (int i = 0; i < n; i++) {
                many *= 3;
            }
            for (int code = 0; code < many; code++) {
                int[] of = new int[n];
                int left = code;
                boolean fits = true;
                boolean any = false;
                for (int i = 0; i < n; i++) {
                    of[i] = left % 3;
                    left /= 3;
                    fits &= of[i] == 0 || (bits >> i & 1) == 1;
                    any |= of[i] > 0;
                }
                Way way = fits && any ? way(bits, of) : null;
                if (way != null) {
                    all.add(way);
                }
            }
            return all;
        }

        private Way way(int bits, int[] of) {
            int n = n();
            Q[] rest = new Q[n];
            int[] stretch = new int[n];
            for (int i = 0; i < n; i++) {
                int[] v = bolts.get(i).v;
                stretch[i] = of[i] == 0 ? 0 : of[i] == 1 ? v[0] : v[3];
                rest[i] = Q.of(of[i] == 2 ? v[1] + v[0] * v[2] - v[3] * v[2] : v[1]);
            }
            Way way = solve(rest, stretch);
            if (way == null) {
                return null;
            }
            way.of = of;
            for (int i = 0; i < n; i++) {
                int[] v = bolts.get(i).v;
                if ((bits >> i & 1) == 0) {
                    continue;
                }
                if (of[i] == 0) {
                    way.atMostZero(way.slipRise[i], way.slipStart[i].minus(Q.of(v[1])));
                } else if (of[i] == 1) {
                    way.atMostZero(Q.ZERO.minus(way.forceRise[i]), Q.ZERO.minus(way.forceStart[i]));
                    way.atMostZero(way.forceRise[i], way.forceStart[i].minus(Q.of(v[2])));
                } else {
                    way.atMostZero(Q.ZERO.minus(way.forceRise[i]), Q.of(v[2]).minus(way.forceStart[i]));
                }
            }
            return way.empty() ? null : way;
        }

        State state(List<Way> ways, int bits, Q p) {
            State s = new State();
            int n = n();
            s.p = p;
            s.force = new Q[n];
            s.slip = new Q[n];
            if (p.sign() == 0) {
                int least = 99;
                for (int i = 0; i < n; i++) {
                    if ((bits >> i & 1) == 1) {
                        least = Math.min(least, bolts.get(i).v[1]);
                    }
                }
                for (int i = 0; i < n; i++) {
                    s.force[i] = Q.ZERO;
                    s.slip[i] = Q.of(least);
                }
                return s;
            }
            for (Way way : ways) {
                if (way.holds(p)) {
                    for (int i = 0; i < n; i++) {
                        s.force[i] = way.force(i, p);
                        s.slip[i] = way.slip(i, p);
                    }
                    return s;
                }
            }
            throw new IllegalStateException("no state");
        }

        /** The load from which on a bolt's force is above 0 (kind 0), above its yield (1), at its break (2). */
        Q from(List<Way> ways, int kind, int i) {
            Q first = null;
            for (Way way : ways) {
                Q p = null;
                if (kind == 2 && way.of[i] == 2) {
                    Q at = Q.of(bolts.get(i).v[4]).minus(way.forceStart[i]).by(way.forceRise[i]);
                    p = way.holds(at) ? at : null;
                } else if (kind < 2 && way.of[i] > kind) {
                    p = way.low;
                }
                if (p != null && (first == null || p.compareTo(first) < 0)) {
                    first = p;
                }
            }
            return first;
        }

        List<Event> grow() {
            List<Event> all = new ArrayList<>();
            int left = sound();
            boolean[][] seen = new boolean[2][n()];
            while (left != 0) {
                List<Way> ways = ways(left);
                Q p = null;
                int breaking = -1;
                for (int i = 0; i < n(); i++) {
                    Q at = from(ways, 2, i);
                    if (at != null && (p == null || at.compareTo(p) < 0)) {
                        p = at;
                        breaking = i;
                    }
                }
                List<Event> here = new ArrayList<>();
                for (int kind = 0; kind < 2; kind++) {
                    for (int i = 0; i < n(); i++) {
                        Q at = (left >> i & 1) == 1 && !seen[kind][i] ? from(ways, kind, i) : null;
                        if (at != null && at.compareTo(p) <= 0) {
                            here.add(new Event(kind, i, at));
                            seen[kind][i] = true;
                        }
                    }
                }
                // The sort keeps what is of one load as it is: by kinds, then by bolts.
                here.sort((x, z) -> x.p.compareTo(z.p));
                all.addAll(here);
                while (breaking >= 0) {
                    all.add(new Event(2, breaking, p));
                    left &= ~(1 << breaking);
                    breaking = -1;
                    if (left != 0) {
                        breaking = next(all, left, p, seen);
                    }
                }
            }
            return all;
        }

        private int next(List<Event> all, int left, Q p, boolean[][] seen) {
            List<Way> ways = ways(left);
            State s = state(ways, left, p);
            for (int kind = 0; kind < 2; kind++) {
                for (int i = 0; i < n(); i++) {
                    int[] v = bolts.get(i).v;
                    if (!seen[kind][i] && s.force[i].compareTo(Q.of(kind == 0 ? 0 : v[2])) > 0) {
                        all.add(new Event(kind, i, p));
                        seen[kind][i] = true;
                    }
                }
            }
            int worst = -1;
            Q most = Q.of(1);
            for (int i = 0; i < n(); i++) {
                Q part = s.force[i].by(Q.of(bolts.get(i).v[4]));
                if (worst < 0 ? part.compareTo(most) >= 0 : part.compareTo(most) > 0) {
                    worst = i;
                    most = part;
                }
            }
            return worst;
        }

        Q peakAlone() {
            List<Event> all = grow();
            return all.isEmpty() ? Q.ZERO : all.get(all.size() - 1).p;
        }
    }

    /** All of the document's calls, in the plainest way. */
    private static final class Model {
        Joint joint = new Joint();
        List<BigInteger> row = new ArrayList<>();
        StringBuilder text = new StringBuilder();
        List<Event> events = new ArrayList<>();

        private void anew() {
            events = joint.grow();
        }

        private void tell(Q... all) {
            row.clear();
            add(all);
        }

        private void add(Q... all) {
            for (Q q : all) {
                row.add(q.over);
                row.add(q.under);
            }
        }

        private void whole(long v) {
            row.add(BigInteger.valueOf(v));
        }

        private static boolean fair(int[] v) {
            return v[0] >= 1 && v[0] <= 5 && v[1] >= 0 && v[1] <= 9 && v[2] >= 1 && v[2] <= 30 && v[3] >= v[0] && v[3] <= 9
                && v[4] >= v[2] + 1 && v[4] <= 60;
        }

        int bolt(int... v) {
            if (!fair(v)) {
                return -1;
            }
            if (joint.n() == 5) {
                return -2;
            }
            if (joint.n() > 0) {
                joint.w[joint.n() - 1] = 1;
            }
            joint.bolts.add(new Bolt(v, false));
            anew();
            return joint.n();
        }

        int plates(int a, int b) {
            if (a < 0 || a > 2 || b < 0 || b > 2) {
                return -1;
            }
            if (a == joint.a && b == joint.b) {
                return -2;
            }
            int were = joint.a * 10 + joint.b;
            joint.a = a;
            joint.b = b;
            anew();
            return were;
        }

        int pitch(int i, int w) {
            if (i < 0 || i > joint.n() - 2 || w < 0 || w > 2) {
                return -1;
            }
            int were = joint.w[i];
            if (were == w) {
                return -2;
            }
            joint.w[i] = w;
            anew();
            return were;
        }

        int alters(int i, int... v) {
            if (!joint.has(i) || !fair(v)) {
                return -1;
            }
            int others = 0;
            for (int k = 0; k < 5; k++) {
                others += v[k] == joint.bolts.get(i).v[k] ? 0 : 1;
            }
            if (others == 0) {
                return -2;
            }
            joint.bolts.set(i, new Bolt(v, joint.bolts.get(i).out));
            anew();
            return others;
        }

        int takes(int i, boolean out) {
            if (!joint.has(i)) {
                return -1;
            }
            if (joint.bolts.get(i).out == out) {
                return -2;
            }
            joint.bolts.get(i).out = out;
            anew();
            return Integer.bitCount(joint.sound());
        }

        boolean swaps(int i, int k) {
            if (!joint.has(i) || !joint.has(k) || i == k) {
                return false;
            }
            java.util.Collections.swap(joint.bolts, i, k);
            anew();
            return true;
        }

        int clears() {
            int were = joint.n();
            joint.bolts.clear();
            anew();
            return were;
        }

        int sign(int v) {
            if (text.length() > 76) {
                return -1;
            }
            text.append((char) (v >>> 24)).append((char) (v >> 16 & 255)).append((char) (v >> 8 & 255)).append((char) (v & 255));
            return text.length();
        }

        boolean end(int n) {
            if (n < 0 || n > text.length()) {
                return false;
            }
            text.setLength(n);
            return true;
        }

        private int pos;
        private int bad;

        private int number(String s, int digits, int least, int most) {
            int value = 0;
            for (int k = 0; k < digits; k++) {
                if (bad >= 0) {
                    return least;
                }
                char c = pos < s.length() ? s.charAt(pos) : 'x';
                if (c < '0' || c > '9') {
                    bad = pos;
                    return least;
                }
                value = value * 10 + c - '0';
                pos++;
            }
            if (bad < 0 && (value < least || value > most)) {
                bad = pos - 1;
            }
            return value;
        }

        int readJoint() {
            String s = text.toString();
            text.setLength(0);
            pos = 0;
            bad = -1;
            Joint made = new Joint();
            made.a = number(s, 1, 0, 2);
            made.b = number(s, 1, 0, 2);
            while (bad < 0) {
                int g = number(s, 1, 1, 5);
                int c = number(s, 1, 0, 9);
                int y = number(s, 2, 1, 30);
                int z = number(s, 2, g, 9);
                int u = number(s, 2, y + 1, 60);
                if (bad >= 0) {
                    break;
                }
                made.bolts.add(new Bolt(new int[] {g, c, y, z, u}, false));
                if (pos == s.length()) {
                    joint = made;
                    anew();
                    return joint.n();
                }
                if (s.charAt(pos) != '/' || made.n() == 5) {
                    bad = pos;
                    break;
                }
                pos++;
                made.w[made.n() - 1] = number(s, 1, 0, 2);
            }
            return -1 - bad;
        }

        Integer part(int i, int what) {
            if (!joint.has(i) || what < 0 || what > 6) {
                return null;
            }
            Bolt bolt = joint.bolts.get(i);
            return what < 5 ? bolt.v[what] : what == 5 ? (bolt.out ? 1 : 0) : i == joint.n() - 1 ? 0 : joint.w[i];
        }

        private Q peakQ() {
            return events.isEmpty() ? Q.ZERO : events.get(events.size() - 1).p;
        }

        private int leftAt(int p) {
            int left = joint.sound();
            for (Event e : events) {
                if (e.kind == 2 && e.p.compareTo(Q.of(p)) <= 0) {
                    left &= ~(1 << e.who);
                }
            }
            return left;
        }

        private State at(int p) {
            int left = leftAt(p);
            return joint.state(joint.ways(left), left, Q.of(p));
        }

        private int first(int p, boolean fair) {
            return p < 0 || p > 300 || !fair ? -1 : peakQ().compareTo(Q.of(p)) <= 0 ? -2 : 0;
        }

        int force(int p, int i) {
            int a = first(p, joint.has(i));
            if (a == 0) {
                tell(at(p).force[i]);
            }
            return a;
        }

        int slip(int p, int i) {
            int a = first(p, joint.has(i));
            if (a == 0) {
                tell(at(p).slip[i]);
            }
            return a;
        }

        int bears(int p, int i) {
            int a = first(p, i >= 0 && i < joint.n() - 1);
            if (a == 0) {
                Q borne = at(p).borne(i);
                tell(Q.of(p).minus(borne), borne);
            }
            return a;
        }

        int stretch(int p) {
            int a = first(p, joint.n() > 0);
            if (a == 0) {
                State s = at(p);
                Q far = s.slip[0];
                for (int i = 0; i < joint.n() - 1; i++) {
                    far = far.plus(s.borne(i).times(joint.b * joint.w[i]));
                }
                tell(far);
            }
            return a;
        }

        int state(int p, int i) {
            if (first(p, joint.has(i)) == -1) {
                return -1;
            }
            if (joint.bolts.get(i).out) {
                return 4;
            }
            if ((leftAt(p) >> i & 1) == 0) {
                return 3;
            }
            Q f = at(p).force[i];
            return f.sign() == 0 ? 0 : f.compareTo(Q.of(joint.bolts.get(i).v[2])) <= 0 ? 1 : 2;
        }

        int idle(int p) {
            if (first(p, true) == -1) {
                return -1;
            }
            int idle = 0;
            int broken = 0;
            for (int i = 0; i < joint.n(); i++) {
                int s = state(p, i);
                idle |= s == 0 ? 1 << i : 0;
                broken |= s == 3 ? 1 << i : 0;
            }
            row.clear();
            whole(broken);
            return idle;
        }

        int hardest(int p) {
            int a = first(p, joint.n() > 0);
            if (a < 0) {
                return a;
            }
            State s = at(p);
            int best = 0;
            int many = 0;
            for (int i = 0; i < joint.n(); i++) {
                many += s.force[i].sign() > 0 ? 1 : 0;
                if (s.force[i].compareTo(s.force[best]) > 0) {
                    best = i;
                }
            }
            row.clear();
            Q part = p == 0 ? Q.ZERO : s.force[best].times(1000).by(Q.of(p));
            row.add(part.over.divide(part.under));
            whole(many);
            return best;
        }

        int margin(int p) {
            int a = first(p, joint.n() > 0);
            if (a < 0) {
                return a;
            }
            for (Event e : events) {
                if (e.p.compareTo(Q.of(p)) > 0) {
                    tell(e.p.minus(Q.of(p)));
                    whole(e.kind);
                    whole(e.who);
                    return 0;
                }
            }
            throw new IllegalStateException("no event");
        }

        int work(int p) {
            int a = first(p, joint.n() > 0);
            if (a < 0) {
                return a;
            }
            State s = at(p);
            Q bolts = Q.ZERO;
            Q plates = Q.ZERO;
            for (int i = 0; i < joint.n(); i++) {
                int[] v = joint.bolts.get(i).v;
                Q f = s.force[i];
                Q ff = f.times(f);
                Q yy = Q.of(v[2] * v[2]);
                bolts = bolts.plus(f.compareTo(Q.of(v[2])) <= 0 ? ff.times(v[0]) : yy.times(v[0]).plus(ff.minus(yy).times(v[3])));
                if (i < joint.n() - 1) {
                    Q low = s.borne(i);
                    Q up = Q.of(p).minus(low);
                    plates = plates.plus(up.times(up).times(joint.w[i] * joint.a)).plus(low.times(low).times(joint.w[i] * joint.b));
                }
            }
            tell(bolts, plates);
            return 0;
        }

        private Q[] sets(State s) {
            Q[] sets = new Q[joint.n()];
            for (int i = 0; i < joint.n(); i++) {
                int[] v = joint.bolts.get(i).v;
                Q more = s.force[i].minus(Q.of(v[2]));
                sets[i] = Q.of(v[1]).plus(more.sign() > 0 ? more.times(v[3] - v[0]) : Q.ZERO);
            }
            return sets;
        }

        int set(int p, int i) {
            int a = first(p, joint.has(i));
            if (a < 0) {
                return a;
            }
            if ((leftAt(p) >> i & 1) == 0) {
                return -3;
            }
            tell(sets(at(p))[i]);
            return 0;
        }

        /** All ways of touching or not as load falls, with the loads at which each is so. */
        private List<Way> falling(int left, Q[] sets) {
            List<Way> all = new ArrayList<>();
            for (int bits = 1; bits < 1 << joint.n(); bits++) {
                if ((bits & ~left) != 0) {
                    continue;
                }
                int[] stretch = new int[joint.n()];
                int[] of = new int[joint.n()];
                for (int i = 0; i < joint.n(); i++) {
                    of[i] = bits >> i & 1;
                    stretch[i] = of[i] * joint.bolts.get(i).v[0];
                }
                Way way = joint.solve(sets, stretch);
                way.of = of;
                for (int i = 0; i < joint.n(); i++) {
                    if (of[i] == 1) {
                        way.atMostZero(Q.ZERO.minus(way.forceRise[i]), Q.ZERO.minus(way.forceStart[i]));
                    } else if ((left >> i & 1) == 1) {
                        way.atMostZero(way.slipRise[i], way.slipStart[i].minus(sets[i]));
                    }
                }
                if (!way.empty()) {
                    all.add(way);
                }
            }
            return all;
        }

        int falls(int p, int q, int i) {
            int a = first(p, joint.has(i) && q >= 0 && q <= p);
            if (a < 0) {
                return a;
            }
            int left = leftAt(p);
            Q[] sets = sets(at(p));
            if (q == 0) {
                Q least = null;
                for (int k = 0; k < joint.n(); k++) {
                    if ((left >> k & 1) == 1 && (least == null || sets[k].compareTo(least) < 0)) {
                        least = sets[k];
                    }
                }
                tell(Q.ZERO, least);
                return 0;
            }
            for (Way way : falling(left, sets)) {
                if (way.holds(Q.of(q))) {
                    tell(way.force(i, Q.of(q)), way.slip(i, Q.of(q)));
                    return 0;
                }
            }
            throw new IllegalStateException("no state");
        }

        int opens(int p) {
            int a = first(p, joint.n() > 0);
            if (a < 0) {
                return a;
            }
            State s = at(p);
            List<Way> ways = falling(leftAt(p), sets(s));
            int best = -1;
            Q first = null;
            for (int i = 0; i < joint.n(); i++) {
                if (s.force[i].sign() <= 0) {
                    continue;
                }
                // Its force is 0 from the least load on at which it does not touch, else at no load.
                Q at = Q.ZERO;
                for (Way way : ways) {
                    if (way.of[i] == 0 && way.high != null && way.high.compareTo(at) > 0) {
                        at = way.high;
                    }
                }
                if (first == null || at.compareTo(first) > 0) {
                    first = at;
                    best = i;
                }
            }
            if (best < 0) {
                return -3;
            }
            tell(first);
            return best;
        }

        int events() {
            row.clear();
            for (int kind = 0; kind < 3; kind++) {
                int sum = 0;
                for (Event e : events) {
                    sum += e.kind == kind ? 1 : 0;
                }
                whole(sum);
            }
            return events.size();
        }

        int event(int k) {
            if (k < 0 || k >= events.size()) {
                return -1;
            }
            Event e = events.get(k);
            row.clear();
            whole(e.who);
            add(e.p);
            return e.kind;
        }

        int peak() {
            int many = 0;
            for (Event e : events) {
                many += e.kind == 2 && e.p.same(peakQ()) ? 1 : 0;
            }
            tell(peakQ());
            return many;
        }

        private List<Integer> broken() {
            List<Integer> all = new ArrayList<>();
            for (Event e : events) {
                if (e.kind == 2) {
                    all.add(e.who);
                }
            }
            return all;
        }

        int order() {
            row.clear();
            for (int i : broken()) {
                whole(i);
            }
            return row.size();
        }

        int when(int kind, int i) {
            if (kind < 0 || kind > 2 || !joint.has(i)) {
                return -1;
            }
            for (Event e : events) {
                if (e.kind == kind && e.who == i) {
                    tell(e.p);
                    return 0;
                }
            }
            return -2;
        }

        int sheds(int i) {
            if (!joint.has(i)) {
                return -1;
            }
            int left = joint.sound();
            for (Event e : events) {
                if (e.kind != 2) {
                    continue;
                }
                int then = left & ~(1 << e.who);
                if (e.who == i) {
                    return then == 0 ? -2 : gains(left, then, e.p);
                }
                left = then;
            }
            return -2;
        }

        private int gains(int left, int then, Q p) {
            State before = joint.state(joint.ways(left), left, p);
            State after = joint.state(joint.ways(then), then, p);
            Q[] more = new Q[joint.n()];
            BigInteger under = BigInteger.ONE;
            int best = -1;
            for (int i = 0; i < joint.n(); i++) {
                boolean stays = (then >> i & 1) == 1;
                more[i] = stays ? after.force[i].minus(before.force[i]) : Q.ZERO;
                under = under.multiply(more[i].under).divide(under.gcd(more[i].under));
                if (stays && (best < 0 || more[i].compareTo(more[best]) > 0)) {
                    best = i;
                }
            }
            row.clear();
            row.add(under);
            for (Q q : more) {
                row.add(q.over.multiply(under.divide(q.under)));
            }
            return best;
        }

        int replays() {
            String s = text.toString();
            text.setLength(0);
            for (int k = 0; k < s.length(); k++) {
                int digit = s.charAt(k) - '0';
                if (digit < 0 || digit >= joint.n() || s.indexOf(s.charAt(k)) < k) {
                    return -1 - k;
                }
            }
            StringBuilder order = new StringBuilder();
            for (int i : broken()) {
                order.append(i);
            }
            int same = 0;
            while (same < s.length() && same < order.length() && s.charAt(same) == order.charAt(same)) {
                same++;
            }
            row.clear();
            whole(s.equals(order.toString()) ? 1 : 0);
            return same;
        }

        int without(int i) {
            if (!joint.has(i)) {
                return -1;
            }
            if (joint.bolts.get(i).out) {
                return -2;
            }
            Joint other = joint.copy();
            other.bolts.get(i).out = true;
            Q peak = other.peakAlone();
            tell(peak);
            return 1 + Integer.signum(peak.compareTo(peakQ()));
        }

        int tunes(int i) {
            if (!joint.has(i)) {
                return -1;
            }
            Joint other = joint.copy();
            int best = -1;
            Q most = null;
            for (int c = 0; c <= 9; c++) {
                other.bolts.get(i).v[1] = c;
                Q peak = other.peakAlone();
                if (most == null || peak.compareTo(most) > 0) {
                    best = c;
                    most = peak;
                }
            }
            tell(most);
            return best;
        }

        int arranges() {
            if (joint.n() == 0) {
                return -1;
            }
            List<int[]> all = new ArrayList<>();
            orders(new int[joint.n()], 0, 0, all);
            int[] best = null;
            Q most = null;
            for (int[] order : all) {
                Joint other = joint.copy();
                for (int i = 0; i < order.length; i++) {
                    other.bolts.set(i, joint.bolts.get(order[i]));
                }
                Q peak = other.peakAlone();
                if (most == null || peak.compareTo(most) > 0) {
                    best = order;
                    most = peak;
                }
            }
            row.clear();
            int moved = 0;
            for (int i = 0; i < best.length; i++) {
                whole(best[i]);
                moved |= best[i] == i ? 0 : 1;
            }
            add(most);
            return moved;
        }

        private void orders(int[] order, int at, int used, List<int[]> all) {
            if (at == order.length) {
                all.add(order.clone());
                return;
            }
            for (int i = 0; i < order.length; i++) {
                if ((used >> i & 1) == 0) {
                    order[at] = i;
                    orders(order, at + 1, used | 1 << i, all);
                }
            }
        }

        int fits(int p) {
            if (p < 0 || p > 300 || joint.n() == 0) {
                return -1;
            }
            for (int c = 9; c >= 0; c--) {
                Joint other = joint.copy();
                for (Bolt bolt : other.bolts) {
                    if (bolt.v[1] > c) {
                        bolt.v[1] = c;
                    }
                }
                Q peak = other.peakAlone();
                if (peak.compareTo(Q.of(p)) >= 0) {
                    tell(peak);
                    return c;
                }
            }
            return -2;
        }

        int chance(int seed, int n, int p) {
            if (p < 0 || p > 300 || joint.n() == 0 || n < 1 || n > 40) {
                return -1;
            }
            int r = seed;
            int enough = 0;
            Q least = null;
            Joint other = joint.copy();
            for (int k = 0; k < n; k++) {
                for (Bolt bolt : other.bolts) {
                    r = r * 1103515245 + 12345;
                    bolt.v[1] = (int) (((r & 0xffffffffL) / 65536) % 10);
                }
                Q peak = other.peakAlone();
                enough += peak.compareTo(Q.of(p)) >= 0 ? 1 : 0;
                if (least == null || peak.compareTo(least) < 0) {
                    least = peak;
                }
            }
            tell(least);
            return enough;
        }

        int count(int what) {
            switch (what) {
                case 0:
                    return joint.n();
                case 1:
                    return Integer.bitCount(joint.sound());
                case 2:
                    return joint.breaksTogether();
                case 3: {
                    int least = -1;
                    for (Bolt bolt : joint.bolts) {
                        if (!bolt.out && (least < 0 || bolt.v[1] < least)) {
                            least = bolt.v[1];
                        }
                    }
                    return least;
                }
                case 4:
                    return events.size();
                case 5:
                    return row.size();
                case 6:
                    return text.length();
                case 7:
                    return joint.a;
                case 8:
                    return joint.b;
                default:
                    return -1;
            }
        }
    }
}
