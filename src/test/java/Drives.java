/** Objects as a test needs them, and what tests ask of them again and again. No test by itself. */
final class Drives {
    static final int[] NO_LEGS = {-1, 3, Integer.MIN_VALUE, Integer.MAX_VALUE};

    private Drives() {
    }

    static DriveTicks demanding(int a, int b, int c) {
        DriveTicks x = new DriveTicks();
        demand(x, a, b, c);
        return x;
    }

    static void demand(DriveTicks x, int a, int b, int c) {
        x.leg(0, 0, a);
        x.leg(1, 0, b);
        x.leg(2, 0, c);
    }

    static DriveTicks withCurrents(DriveTicks x, int a, int b, int c) {
        x.leg(0, 1, a);
        x.leg(1, 1, b);
        x.leg(2, 1, c);
        return x;
    }

    /** N is n; LEG 0 is WANTED all around, LEG 1 never, LEG 2 has HIGH h. SPREAD is N, so that nothing is OVER. */
    static DriveTicks withHigh(int n, int h) {
        DriveTicks x = demanding(n / 2, -n / 2, h - n / 2);
        x.sets(0, n);
        return x;
    }

    static void type(DriveTicks x, String text) {
        for (int k = 0; k < text.length(); k++) {
            x.type(text.charAt(k));
        }
    }

    static DriveTicks typed(String text) {
        DriveTicks x = new DriveTicks();
        type(x, text);
        return x;
    }

    /** The arguments are told from left to right, so that before is looked at ahead of the call. */
    static void bad(String call, DriveTicks x, int before, int answer) {
        Check.same(call, answer, DriveTicks.BAD);
        Check.same(call + " counts", x.count(0), before + 1);
    }

    static void wishIs(String what, DriveTicks x, int k, int l, int period, int w) {
        Check.same(what + " LEG", x.wished(k, 0), l);
        Check.same(what + " PERIOD", x.wished(k, 1), period);
        Check.same(what + " w", x.wished(k, 2), w);
    }

    static void stateIs(String what, DriveTicks x, int l, int current, int demand, int want, int sum) {
        Check.same(what + " CURRENT", x.state(l, 0), current);
        Check.same(what + " DEMAND", x.state(l, 1), demand);
        Check.same(what + " WANT", x.state(l, 2), want);
        Check.same(what + " SUM", x.state(l, 3), sum);
    }

    static void shiftIs(String what, DriveTicks x, int a, int b, int c, int together, int like) {
        int[] due = {a, b, c, together, like};
        for (int k = 0; k < 5; k++) {
            Check.same(what + " shift(" + k + ")", x.shift(k), due[k]);
        }
    }

    /** at(l, tick, what) is 1 at the TICKS from first to last, and 0 at all others; first above last: at none. */
    static void onlyFromTo(String label, DriveTicks x, int l, int what, int first, int last) {
        int n = x.count(5);
        for (int tick = 0; tick < n; tick++) {
            Check.same(label + ": at(" + l + ", " + tick + ", " + what + ")", x.at(l, tick, what),
                tick >= first && tick <= last ? 1 : 0);
        }
    }

    /** Refused calls so far: none of them. */
    static void nothingRefused(String label, DriveTicks x) {
        for (int what = 0; what < 3; what++) {
            Check.same(label + ": count(" + what + ")", x.count(what), 0);
        }
    }
}
