import java.util.ArrayList;
import java.util.List;
import java.util.Random;

/**
 * Long runs of calls, each answer against a model that goes tick by tick, word for word by the document.
 * The runs are the same each time: the seeds stand here.
 */
public final class OracleTest {
    private static final int OBJECTS = 400;
    private static final int CALLS = 512;

    public static void main(String[] args) {
        for (int seed = 1; seed <= OBJECTS; seed++) {
            new Run(seed).go();
        }
        Check.finish("OracleTest");
    }

    /** One object and its model, called alike. */
    private static final class Run {
        private final Random random;
        private final DriveTicks x = new DriveTicks();
        private final Model m = new Model();
        private final int seed;

        Run(int seed) {
            this.seed = seed;
            random = new Random(seed * 7919L);
        }

        void go() {
            for (int k = 0; k < CALLS; k++) {
                one();
            }
        }

        private int pick(int least, int most) {
            if (random.nextInt(60) == 0) {
                int[] odd = {least - 1, most + 1, Integer.MIN_VALUE, Integer.MAX_VALUE};
                return odd[random.nextInt(odd.length)];
            }
            if (random.nextInt(8) == 0) {
                return random.nextBoolean() ? least : most;
            }
            return least + random.nextInt(most - least + 1);
        }

        private int leg() {
            return pick(0, 2);
        }

        private int demand() {
            return random.nextBoolean() ? pick(-30, 30) : pick(-200, 200);
        }

        private int current() {
            int kind = random.nextInt(4);
            return kind == 0 ? pick(-999, 999) : kind == 1 ? pick(-3, 3) : pick(-120, 120);
        }

        private void same(String call, long got, long due) {
            Check.same("seed " + seed + ": " + call, got, due);
        }

        private void one() {
            switch (random.nextInt(10)) {
                case 0: case 1: case 2:
                    tell();
                    break;
                case 3: case 4: case 5: case 6:
                    ask();
                    break;
                case 7: case 8:
                    step();
                    break;
                default:
                    text();
            }
        }

        private void tell() {
            int a = pick(0, 6);
            int l = leg();
            int v;
            switch (random.nextInt(12)) {
                case 0: case 1: case 2:
                    v = pick(0, 20);
                    if (a == 0) {
                        v = random.nextInt(10) == 0 ? pick(10, 99) : pick(6, 48) * 2;
                    } else if (a == 2 || a == 6) {
                        v = pick(0, 1);
                    } else if (a == 1) {
                        v = pick(0, 5);
                    }
                    same("sets(" + a + ", " + v + ")", x.sets(a, v), m.sets(a, v));
                    break;
                case 3: case 4: case 5: case 6:
                    v = demand();
                    same("leg(" + l + ", 0, " + v + ")", x.leg(l, 0, v), m.leg(l, 0, v));
                    break;
                case 7: case 8: case 9:
                    v = current();
                    int what = random.nextInt(20) == 0 ? pick(0, 1) : 1;
                    same("leg(" + l + ", " + what + ", " + v + ")", x.leg(l, what, v), m.leg(l, what, v));
                    break;
                case 10:
                    v = pick(0, 999999);
                    same("draw(" + v + ")", x.draw(v), m.draw(v));
                    break;
                default:
                    if (random.nextInt(6) == 0) {
                        same("anew()", x.anew(), m.anew());
                    }
            }
        }

        private void ask() {
            int l = leg();
            int what;
            int k;
            switch (random.nextInt(12)) {
                case 0:
                    what = pick(0, 4);
                    same("plan(" + what + ")", x.plan(what), m.plan(what));
                    break;
                case 1: case 2:
                    what = pick(0, 6);
                    same("of(" + l + ", " + what + ")", x.of(l, what), m.of(l, what));
                    break;
                case 3:
                    what = pick(0, 3);
                    k = pick(0, 95);
                    same("at(" + l + ", " + k + ", " + what + ")", x.at(l, k, what), m.at(l, k, what));
                    break;
                case 4:
                    what = pick(0, 3);
                    k = pick(0, 7);
                    same("run(" + k + ", " + what + ")", x.run(k, what), m.run(k, what));
                    break;
                case 5:
                    what = pick(0, 1);
                    same("seen(" + what + ")", x.seen(what), m.seen(what));
                    break;
                case 6:
                    same("told(" + l + ")", x.told(l), m.told(l));
                    break;
                case 7:
                    same("both()", x.both(), 0);
                    same("off(" + l + ")", x.off(l), m.off(l));
                    break;
                case 8:
                    same("dies(" + l + ")", x.dies(l), m.dies(l));
                    break;
                case 9:
                    what = pick(0, 3);
                    k = pick(0, 12);
                    same("event(" + k + ", " + what + ")", x.event(k, what), m.event(k, what));
                    break;
                case 10:
                    same("events()", x.events(), m.events());
                    break;
                default:
                    what = pick(0, 4);
                    same("shift(" + what + ")", x.shift(what), m.shift(what));
            }
        }

        private void step() {
            int l = leg();
            int k;
            int what;
            int v;
            switch (random.nextInt(16)) {
                case 0: case 1: case 2:
                    k = random.nextInt(4) == 0 ? pick(0, 999) : Math.min(999, m.done + random.nextInt(6));
                    v = random.nextBoolean() ? pick(-500, 500) : pick(-60, 60);
                    same("wish(" + l + ", " + k + ", " + v + ")", x.wish(l, k, v), m.wish(l, k, v));
                    break;
                case 3:
                    same("unwish(" + l + ")", x.unwish(l), m.unwish(l));
                    break;
                case 4:
                    k = pick(0, 12);
                    what = pick(0, 2);
                    same("wished(" + k + ", " + what + ")", x.wished(k, what), m.wished(k, what));
                    break;
                case 5: case 6: case 7:
                    k = random.nextInt(5) == 0 ? pick(1, 50) : pick(1, 4);
                    same("steps(" + k + ")", x.steps(k), m.steps(k));
                    break;
                case 8:
                    v = random.nextBoolean() ? pick(0, 60) : pick(0, 500);
                    same("settles(" + v + ")", x.settles(v), m.settles(v));
                    break;
                case 9:
                    v = pick(0, 500);
                    if (random.nextInt(3) == 0) {
                        same("tunes(" + v + ")", x.tunes(v), m.tunes(v));
                    }
                    break;
                case 10: case 11:
                    what = pick(0, 3);
                    same("state(" + l + ", " + what + ")", x.state(l, what), m.state(l, what));
                    break;
                case 12:
                    k = pick(0, 10);
                    what = pick(0, 3);
                    same("memory(" + k + ", " + what + ")", x.memory(k, what), m.memory(k, what));
                    break;
                case 13:
                    what = pick(0, 2);
                    same("over(" + l + ", " + what + ")", x.over(l, what), m.over(l, what));
                    break;
                case 14:
                    what = pick(0, 12);
                    same("count(" + what + ")", x.count(what), m.count(what));
                    break;
                default:
                    same("digest()", x.digest(), m.digest());
            }
        }

        private void text() {
            switch (random.nextInt(8)) {
                case 0:
                    same("clear()", x.clear(), m.clear());
                    break;
                case 1: case 2:
                    same("reads()", x.reads(), m.reads());
                    break;
                case 3:
                    int c = random.nextInt(10) == 0 ? pick(0, 127) : "uvw+-@; 0159".charAt(random.nextInt(12));
                    same("type(" + c + ")", x.type(c), m.type(c));
                    break;
                default:
                    if (random.nextInt(3) == 0) {
                        same("clear()", x.clear(), m.clear());
                    }
                    typeAll(someWish());
                    same("reads() of '" + m.text + "'", x.reads(), m.reads());
            }
        }

        private void typeAll(String s) {
            for (int k = 0; k < s.length(); k++) {
                same("type", x.type(s.charAt(k)), m.type(s.charAt(k)));
            }
        }

        private String blank() {
            return random.nextInt(8) == 0 ? " " : "";
        }

        private String number() {
            int n = random.nextInt(12) == 0 ? random.nextInt(12000) : random.nextInt(503);
            return random.nextInt(6) == 0 ? "0" + n : "" + n;
        }

        private String someWish() {
            StringBuilder s = new StringBuilder();
            s.append(blank()).append("uvw".charAt(random.nextInt(3))).append(blank());
            if (random.nextBoolean()) {
                s.append("+-".charAt(random.nextInt(2))).append(blank()).append(number()).append(blank());
            }
            if (random.nextBoolean()) {
                s.append('@').append(blank()).append(number()).append(blank());
            }
            s.append(';').append(blank());
            if (random.nextInt(6) == 0) {
                s.deleteCharAt(random.nextInt(s.length()));
            }
            if (random.nextInt(8) == 0) {
                s.insert(random.nextInt(s.length() + 1), "uvw+-@; 07x".charAt(random.nextInt(11)));
            }
            return s.toString();
        }
    }

    /** The document, plainly: lists of ticks, all made anew for each question. */
    private static final class Model {
        int n = 48, d = 2, correcting = 1, window = 4, p = 8, q = 4, steering = 0;
        int[] u = new int[3], i = new int[3], w = new int[3], sum = new int[3];
        int done = 0, bads = 0, fulls = 0;
        List<int[]> wishes = new ArrayList<>();
        List<int[]> remembered = new ArrayList<>();
        String text = "";

        private int bad() {
            bads++;
            return -2;
        }

        private static boolean in(int v, int a, int b) {
            return a <= v && v <= b;
        }

        Model copy() {
            Model c = new Model();
            c.n = n;
            c.d = d;
            c.correcting = correcting;
            c.window = window;
            c.p = p;
            c.q = q;
            c.steering = steering;
            c.u = u.clone();
            c.i = i.clone();
            c.w = w.clone();
            c.sum = sum.clone();
            c.done = done;
            c.wishes = new ArrayList<>(wishes);
            return c;
        }

        int sets(int what, int v) {
            int was;
            if (what == 0 && in(v, 12, 96) && v % 2 == 0) {
                was = n;
                n = v;
            } else if (what == 1 && in(v, 0, 5)) {
                was = d;
                d = v;
            } else if (what == 2 && in(v, 0, 1)) {
                was = correcting;
                correcting = v;
            } else if (what == 3 && in(v, 1, 20)) {
                was = window;
                window = v;
            } else if (what == 4 && in(v, 0, 20)) {
                was = p;
                p = v;
            } else if (what == 5 && in(v, 0, 20)) {
                was = q;
                q = v;
            } else if (what == 6 && in(v, 0, 1)) {
                was = steering;
                steering = v;
            } else {
                was = bad();
            }
            return was;
        }

        int leg(int l, int what, int v) {
            if (!in(l, 0, 2) || !in(what, 0, 1)) {
                return bad();
            }
            if (what == 0 ? !in(v, -200, 200) : !in(v, -999, 999)) {
                return bad();
            }
            int[] row = what == 0 ? u : i;
            int was = row[l];
            row[l] = v;
            return was;
        }

        int anew() {
            int was = done;
            Model fresh = new Model();
            n = fresh.n;
            d = fresh.d;
            correcting = fresh.correcting;
            window = fresh.window;
            p = fresh.p;
            q = fresh.q;
            steering = fresh.steering;
            u = fresh.u;
            i = fresh.i;
            w = fresh.w;
            sum = fresh.sum;
            done = 0;
            wishes = fresh.wishes;
            remembered = fresh.remembered;
            return was;
        }

        int draw(int seed) {
            if (!in(seed, 0, 999999)) {
                return bad();
            }
            long t = seed;
            for (int l = 0; l < 3; l++) {
                t = (t * 1103515245L + 12345L) & 0x7fffffffL;
                u[l] = (int) ((t >> 16) % 201) - 100;
                i[l] = (int) ((t >> 10) % 401) - 200;
            }
            return spread();
        }

        int spread() {
            return Math.max(u[0], Math.max(u[1], u[2])) - Math.min(u[0], Math.min(u[1], u[2]));
        }

        int high(int l, int dead, int correct) {
            int[] c = u.clone();
            int spread = spread();
            if (spread > n) {
                for (int k = 0; k < 3; k++) {
                    c[k] = u[k] * n / spread;
                }
            }
            int m = Math.max(c[0], Math.max(c[1], c[2])) + Math.min(c[0], Math.min(c[1], c[2]));
            int h = (n + 2 * c[l] - m) / 2;
            if (correct == 1 && i[l] > 0) {
                h += dead;
            }
            if (correct == 1 && i[l] < 0) {
                h -= dead;
            }
            return h < 0 ? 0 : h > n ? n : h;
        }

        boolean[] wanted(int l, int dead, int shift) {
            boolean[] ticks = new boolean[n];
            int h = high(l, dead, correcting);
            int s = (n - h) / 2;
            for (int t = s; t < s + h; t++) {
                ticks[t + shift] = true;
            }
            return ticks;
        }

        boolean[] upper(int l, int dead) {
            boolean[] ticks = wanted(l, dead, 0);
            boolean[] on = new boolean[n];
            for (int t = 0; t < n; t++) {
                on[t] = true;
                for (int b = 0; b <= dead; b++) {
                    on[t] &= ticks[(t - b + n) % n];
                }
            }
            return on;
        }

        boolean[] lower(int l) {
            boolean[] ticks = wanted(l, d, 0);
            boolean[] on = new boolean[n];
            for (int t = 0; t < n; t++) {
                on[t] = true;
                for (int b = 0; b <= d; b++) {
                    on[t] &= !ticks[(t - b + n) % n];
                }
            }
            return on;
        }

        boolean[] gives(int l) {
            boolean[] up = upper(l, d);
            boolean[] low = lower(l);
            boolean[] out = new boolean[n];
            for (int t = 0; t < n; t++) {
                out[t] = up[t] ? true : low[t] ? false : i[l] < 0;
            }
            return out;
        }

        static int number(boolean[] row) {
            int c = 0;
            for (boolean b : row) {
                c += b ? 1 : 0;
            }
            return c;
        }

        /** First TICK, TICKS, PATTERN, the LEG it tells; or null, if WANTED would leave the PERIOD. */
        List<int[]> runs(int a, int b, int c) {
            int[] shift = {a, b, c};
            int[] pattern = new int[n];
            for (int l = 0; l < 3; l++) {
                int h = high(l, d, correcting);
                int s = (n - h) / 2;
                if (h == 0 && shift[l] != 0 || h > 0 && (s + shift[l] < 0 || s + shift[l] + h - 1 > n - 1)) {
                    return null;
                }
                boolean[] ticks = wanted(l, d, shift[l]);
                for (int t = 0; t < n; t++) {
                    pattern[t] += ticks[t] ? 1 << l : 0;
                }
            }
            List<int[]> rows = new ArrayList<>();
            for (int t = 0; t < n; t++) {
                if (t == 0 || pattern[t] != pattern[t - 1]) {
                    rows.add(new int[] {t, 0, pattern[t], -1});
                }
                rows.get(rows.size() - 1)[1]++;
            }
            for (int[] row : rows) {
                int legs = Integer.bitCount(row[2]);
                if (row[1] >= window && legs == 1) {
                    row[3] = Integer.numberOfTrailingZeros(row[2]);
                }
                if (row[1] >= window && legs == 2) {
                    row[3] = Integer.numberOfTrailingZeros(7 - row[2]);
                }
            }
            return rows;
        }

        static int seenIn(List<int[]> rows) {
            int bits = 0;
            for (int[] row : rows) {
                bits |= row[3] >= 0 ? 1 << row[3] : 0;
            }
            return bits;
        }

        int plan(int what) {
            if (what == 0) {
                return spread();
            }
            if (what == 1) {
                return spread() > n ? 1 : 0;
            }
            if (what == 2 || what == 3) {
                int c = 0;
                for (int t = 0; t < n; t++) {
                    int legs = 0;
                    for (int l = 0; l < 3; l++) {
                        legs += wanted(l, d, 0)[t] ? 1 : 0;
                    }
                    c += legs == (what == 2 ? 0 : 3) ? 1 : 0;
                }
                return c;
            }
            return what == 4 ? runs(0, 0, 0).size() : bad();
        }

        int of(int l, int what) {
            if (!in(l, 0, 2) || !in(what, 0, 6)) {
                return bad();
            }
            boolean[] up = upper(l, d);
            int comes = 0;
            for (int t = 0; t < n; t++) {
                comes += up[t] && !up[(t + n - 1) % n] ? 1 : 0;
            }
            int h = high(l, d, correcting);
            int[] all = {h, (n - h) / 2, number(gives(l)), number(up), number(lower(l)),
                n - number(up) - number(lower(l)), comes};
            return all[what];
        }

        int at(int l, int tick, int what) {
            if (!in(l, 0, 2) || !in(tick, 0, n - 1) || !in(what, 0, 3)) {
                return bad();
            }
            boolean[] row = what == 0 ? wanted(l, d, 0) : what == 1 ? upper(l, d) : what == 2 ? lower(l) : gives(l);
            return row[tick] ? 1 : 0;
        }

        int run(int k, int what) {
            if (k < 0 || !in(what, 0, 3)) {
                return bad();
            }
            List<int[]> rows = runs(0, 0, 0);
            return k < rows.size() ? rows.get(k)[what] : -1;
        }

        int seen(int what) {
            int bits = seenIn(runs(0, 0, 0));
            return what == 0 ? bits : what == 1 ? Integer.bitCount(bits) : bad();
        }

        int told(int l) {
            if (!in(l, 0, 2)) {
                return bad();
            }
            int bits = seenIn(runs(0, 0, 0));
            if ((bits & 1 << l) != 0) {
                return i[l];
            }
            return Integer.bitCount(bits) == 2 ? 0 - (i[0] + i[1] + i[2] - i[l]) : -1000;
        }

        int off(int l) {
            return in(l, 0, 2) ? number(gives(l)) - high(l, d, 0) : bad();
        }

        int dies(int l) {
            if (!in(l, 0, 2)) {
                return bad();
            }
            for (int dead = 0; dead <= 5; dead++) {
                boolean ever = false;
                for (int more = dead; more <= 5; more++) {
                    ever |= number(upper(l, more)) > 0;
                }
                if (!ever) {
                    return dead;
                }
            }
            return -1;
        }

        List<int[]> allEvents() {
            List<int[]> rows = new ArrayList<>();
            boolean[][] gates = {upper(0, d), lower(0), upper(1, d), lower(1), upper(2, d), lower(2)};
            for (int t = 0; t < n; t++) {
                for (int g = 0; g < 6; g++) {
                    boolean was = gates[g][t == 0 ? n - 1 : t - 1];
                    if (gates[g][t] && !was) {
                        rows.add(new int[] {t, g / 2, g % 2, 1});
                    }
                    if (!gates[g][t] && was) {
                        rows.add(new int[] {t, g / 2, g % 2, 0});
                    }
                }
            }
            return rows;
        }

        int event(int k, int what) {
            if (k < 0 || !in(what, 0, 3)) {
                return bad();
            }
            List<int[]> rows = allEvents();
            return k < rows.size() ? rows.get(k)[what] : -1;
        }

        int events() {
            return allEvents().size();
        }

        int shift(int what) {
            if (!in(what, 0, 4)) {
                return bad();
            }
            int[] best = null;
            for (int a = -6; a <= 6; a++) {
                for (int b = -6; b <= 6; b++) {
                    for (int c = -6; c <= 6; c++) {
                        int together = Math.abs(a) + Math.abs(b) + Math.abs(c);
                        if (best != null && together > best[3]) {
                            continue;
                        }
                        List<int[]> rows = runs(a, b, c);
                        if (rows == null || Integer.bitCount(seenIn(rows)) < 2) {
                            continue;
                        }
                        if (best == null || together < best[3]) {
                            best = new int[] {a, b, c, together, 1};
                        } else {
                            best[4]++;
                        }
                    }
                }
            }
            return best == null ? -1000 : best[what];
        }

        int wish(int l, int period, int v) {
            if (!in(l, 0, 2) || !in(period, 0, 999) || !in(v, -500, 500)) {
                return bad();
            }
            if (wishes.size() == 12) {
                fulls++;
                return -4;
            }
            wishes.add(new int[] {l, period, v});
            return wishes.size();
        }

        int unwish(int l) {
            if (!in(l, 0, 2)) {
                return bad();
            }
            int before = wishes.size();
            wishes.removeIf(row -> row[0] == l);
            return before - wishes.size();
        }

        int wished(int k, int what) {
            if (k < 0 || !in(what, 0, 2)) {
                return bad();
            }
            return k < wishes.size() ? wishes.get(k)[what] : -1;
        }

        private static int pull(int v, int most) {
            return v > most ? most : v < -most ? -most : v;
        }

        int step() {
            for (int[] row : wishes) {
                if (row[1] <= done) {
                    w[row[0]] = row[2];
                }
            }
            wishes.removeIf(row -> row[1] <= done);
            if (steering == 1) {
                boolean wasOver = spread() > n;
                int[] next = new int[3];
                for (int l = 0; l < 3; l++) {
                    int e = w[l] - i[l];
                    if (!(wasOver && Integer.signum(e) * Integer.signum(sum[l]) == 1)) {
                        sum[l] = pull(sum[l] + e, 5000);
                    }
                    next[l] = pull(e * p / 16 + sum[l] * q / 64, 200);
                }
                u = next;
            }
            int over = spread() > n ? 1 : 0;
            int[] mean = {number(gives(0)), number(gives(1)), number(gives(2))};
            for (int l = 0; l < 3; l++) {
                int c = i[l] + (3 * mean[l] - (mean[0] + mean[1] + mean[2])) / 6;
                c = c - c / 8;
                i[l] = pull(c, 999);
            }
            done++;
            return over;
        }

        int steps(int k) {
            if (!in(k, 1, 50)) {
                return bad();
            }
            int overs = 0;
            for (int t = 0; t < k; t++) {
                int over = step();
                overs += over;
                remembered.add(0, new int[] {i[0], i[1], i[2], over});
                if (remembered.size() > 10) {
                    remembered.remove(10);
                }
            }
            return overs;
        }

        int settles(int m) {
            if (!in(m, 0, 500)) {
                return bad();
            }
            Model c = copy();
            for (int k = 0; k <= 60; k++) {
                boolean near = c.wishes.isEmpty();
                for (int l = 0; l < 3; l++) {
                    near &= c.w[l] - c.i[l] <= m && c.i[l] - c.w[l] <= m;
                }
                if (near) {
                    return k;
                }
                c.step();
            }
            return -1;
        }

        int tunes(int m) {
            if (!in(m, 0, 500)) {
                return bad();
            }
            int best = -1;
            int fewest = 61;
            for (int part = 0; part <= 20; part++) {
                Model c = copy();
                c.p = part;
                int k = c.settles(m);
                if (k != -1 && k < fewest) {
                    fewest = k;
                    best = part;
                }
            }
            return best;
        }

        int state(int l, int what) {
            if (!in(l, 0, 2) || !in(what, 0, 3)) {
                return bad();
            }
            return new int[] {i[l], u[l], w[l], sum[l]}[what];
        }

        int memory(int k, int what) {
            if (k < 0 || !in(what, 0, 3)) {
                return bad();
            }
            return k < remembered.size() ? remembered.get(k)[what] : -1000;
        }

        int over(int l, int what) {
            if (!in(l, 0, 2) || !in(what, 0, 2)) {
                return bad();
            }
            if (remembered.isEmpty()) {
                return -1000;
            }
            int greatest = -9999;
            int least = 9999;
            int overs = 0;
            for (int[] row : remembered) {
                greatest = Math.max(greatest, row[l]);
                least = Math.min(least, row[l]);
                overs += row[3];
            }
            return what == 0 ? greatest : what == 1 ? least : overs;
        }

        int type(int c) {
            if (!in(c, 0, 127)) {
                return bad();
            }
            if (text.length() == 120) {
                fulls++;
                return -4;
            }
            text += (char) c;
            return text.length();
        }

        int clear() {
            int had = text.length();
            text = "";
            return had;
        }

        /** A machine of states, byte by byte; a number is looked at as soon as it begins. */
        int reads() {
            List<int[]> told = new ArrayList<>();
            int[] wish = null;
            // 0 ahead of a letter, 1 behind it, 2 behind a sign, 3 behind w, 4 behind @, 5 behind PERIOD
            int state = 0;
            int sign = 1;
            int k = 0;
            while (k < text.length()) {
                char c = text.charAt(k);
                int figures = 0;
                while (k + figures < text.length() && "0123456789".indexOf(text.charAt(k + figures)) >= 0) {
                    figures++;
                }
                if (c == ' ') {
                    k++;
                } else if (state == 0 && "uvw".indexOf(c) >= 0 && wishes.size() + told.size() < 12) {
                    wish = new int[] {"uvw".indexOf(c), Math.min(done, 999), 0};
                    state = 1;
                    k++;
                } else if (state == 1 && (c == '+' || c == '-')) {
                    sign = c == '-' ? -1 : 1;
                    state = 2;
                    k++;
                } else if ((state == 1 || state == 3) && c == '@') {
                    state = 4;
                    k++;
                } else if ((state == 2 || state == 4) && in(figures, 1, 3)) {
                    int v = Integer.parseInt(text.substring(k, k + figures));
                    if (state == 2 && v > 500) {
                        return -10 - k;
                    }
                    wish[state == 2 ? 2 : 1] = state == 2 ? sign * v : v;
                    state++;
                    k += figures;
                } else if ((state == 1 || state == 3 || state == 5) && c == ';') {
                    told.add(wish);
                    state = 0;
                    k++;
                } else {
                    return -10 - k;
                }
            }
            if (state != 0 || told.isEmpty()) {
                return -10 - text.length();
            }
            wishes.addAll(told);
            return told.size();
        }

        int count(int what) {
            int[] all = {bads, 0, fulls, done, wishes.size(), n, d, correcting, window, p, q, steering,
                text.length()};
            return in(what, 0, 12) ? all[what] : bad();
        }

        long digest() {
            long h = 2069;
            for (int what = 0; what < 13; what++) {
                h = 31 * h + count(what);
            }
            for (int l = 0; l < 3; l++) {
                for (int v : new int[] {i[l], u[l], w[l], sum[l], of(l, 0), of(l, 2)}) {
                    h = 31 * h + v;
                }
            }
            for (int[] row : wishes) {
                for (int v : row) {
                    h = 31 * h + v;
                }
            }
            h = 31 * h + plan(0);
            return 31 * h + plan(4);
        }
    }
}
