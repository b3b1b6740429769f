import java.util.ArrayList;
import java.util.List;

/**
 * "Refused, changing nothing but how often, the first of: BAD .. NO .. FULL": every call that can be refused, by
 * each of its numbers, on an object whose twin is not called so; all answers are the same then, but how often.
 * And what only asks, and a FAULT, change nothing, not even how often.
 */
public final class RefusedTest {
    /** No call of the document. */
    private interface Call {
        long on(DriveTicks x);
    }

    /** Makes an object in some state; each time the same. */
    private interface Maker {
        DriveTicks make();
    }

    private static final class Named {
        final String name;
        final Call call;

        Named(String name, Call call) {
            this.name = name;
            this.call = call;
        }
    }

    public static void main(String[] args) {
        List<Named> bad = new ArrayList<>();
        addWhatIsTold(bad);
        addThePlan(bad);
        addSteps(bad);
        Maker[] makers = {DriveTicks::new, RefusedTest::busy, RefusedTest::full};
        for (Maker maker : makers) {
            for (Named one : bad) {
                isRefused(one, maker, DriveTicks.BAD, 0);
            }
        }
        for (Named one : whatIsFull()) {
            isRefused(one, RefusedTest::full, DriveTicks.FULL, 2);
        }
        for (Maker maker : makers) {
            for (Named one : whatOnlyAsks()) {
                changesNothing(one, maker);
            }
        }
        refusalsAddUp();
        Check.finish("RefusedTest");
    }

    // ---- states

    /** Nothing is as at first, and a TEXT of two WISHES stands. */
    private static DriveTicks busy() {
        DriveTicks x = new DriveTicks();
        x.draw(4711);
        x.sets(0, 60);
        x.sets(1, 3);
        x.sets(3, 7);
        x.sets(4, 11);
        x.sets(5, 6);
        x.sets(6, 1);
        x.wish(0, 0, 90);
        x.wish(1, 1, -45);
        x.wish(2, 2, -45);
        x.wish(2, 30, 12);
        x.wish(0, 40, -8);
        x.steps(13);
        Drives.type(x, "u+7;v-8@99;");
        return x;
    }

    /** WISHES and THE TEXT are full; CORRECTING is off, nothing is STEERED. */
    private static DriveTicks full() {
        DriveTicks x = Drives.withCurrents(Drives.demanding(20, -5, -15), 30, -10, -20);
        x.sets(2, 0);
        x.steps(11);
        for (int k = 0; k < 12; k++) {
            x.wish(k % 3, 20 + k, 10 * k);
        }
        Drives.type(x, "w;" + " ".repeat(118));
        return x;
    }

    // ---- calls

    private static void add(List<Named> all, String name, Call call) {
        all.add(new Named(name, call));
    }

    /** One below the least, one above the greatest, and the ends of int. */
    private static int[] outside(int least, int most) {
        return new int[] {least - 1, most + 1, Integer.MIN_VALUE, Integer.MAX_VALUE};
    }

    private static void addWhatIsTold(List<Named> all) {
        int[] least = {12, 0, 0, 1, 0, 0, 0};
        int[] most = {96, 5, 1, 20, 20, 20, 1};
        for (int k = 0; k < 7; k++) {
            int what = k;
            for (int v : outside(least[what], most[what])) {
                add(all, "sets(" + what + ", " + v + ")", x -> x.sets(what, v));
            }
        }
        for (int v : new int[] {13, 47, 49, 95}) {
            add(all, "sets(0, " + v + ")", x -> x.sets(0, v));
        }
        for (int what : outside(0, 6)) {
            add(all, "sets(" + what + ", 12)", x -> x.sets(what, 12));
        }
        for (int what : outside(0, 1)) {
            add(all, "leg(0, " + what + ", 9)", x -> x.leg(0, what, 9));
        }
        for (int v : outside(-200, 200)) {
            add(all, "leg(1, 0, " + v + ")", x -> x.leg(1, 0, v));
        }
        for (int v : outside(-999, 999)) {
            add(all, "leg(2, 1, " + v + ")", x -> x.leg(2, 1, v));
        }
        for (int seed : outside(0, 999999)) {
            add(all, "draw(" + seed + ")", x -> x.draw(seed));
        }
        for (int l : outside(0, 2)) {
            add(all, "leg(" + l + ", 0, 9)", x -> x.leg(l, 0, 9));
            add(all, "leg(" + l + ", 1, 9)", x -> x.leg(l, 1, 9));
        }
    }

    private static void addThePlan(List<Named> all) {
        for (int l : outside(0, 2)) {
            add(all, "of(" + l + ", 0)", x -> x.of(l, 0));
            add(all, "at(" + l + ", 0, 0)", x -> x.at(l, 0, 0));
            add(all, "told(" + l + ")", x -> x.told(l));
            add(all, "off(" + l + ")", x -> x.off(l));
            add(all, "dies(" + l + ")", x -> x.dies(l));
        }
        for (int what : outside(0, 4)) {
            add(all, "plan(" + what + ")", x -> x.plan(what));
            add(all, "shift(" + what + ")", x -> x.shift(what));
        }
        for (int what : outside(0, 6)) {
            add(all, "of(1, " + what + ")", x -> x.of(1, what));
        }
        for (int what : outside(0, 3)) {
            add(all, "at(2, 3, " + what + ")", x -> x.at(2, 3, what));
            add(all, "run(0, " + what + ")", x -> x.run(0, what));
            add(all, "run(99, " + what + ")", x -> x.run(99, what));
            add(all, "event(0, " + what + ")", x -> x.event(0, what));
            add(all, "event(99, " + what + ")", x -> x.event(99, what));
        }
        for (int tick : new int[] {-1, 96, Integer.MIN_VALUE, Integer.MAX_VALUE}) {
            add(all, "at(0, " + tick + ", 0)", x -> x.at(0, tick, 0));
        }
        add(all, "at(0, N, 0)", x -> x.at(0, nOf(x), 0));
        for (int what : outside(0, 1)) {
            add(all, "seen(" + what + ")", x -> x.seen(what));
        }
        for (int k : new int[] {-1, Integer.MIN_VALUE}) {
            add(all, "run(" + k + ", 0)", x -> x.run(k, 0));
            add(all, "event(" + k + ", 0)", x -> x.event(k, 0));
        }
    }

    private static int nOf(DriveTicks x) {
        return x.count(5);
    }

    private static void addSteps(List<Named> all) {
        for (int l : outside(0, 2)) {
            add(all, "wish(" + l + ", 50, 9)", x -> x.wish(l, 50, 9));
            add(all, "unwish(" + l + ")", x -> x.unwish(l));
            add(all, "state(" + l + ", 0)", x -> x.state(l, 0));
            add(all, "over(" + l + ", 0)", x -> x.over(l, 0));
            add(all, "over(" + l + ", 1)", x -> x.over(l, 1));
            add(all, "over(" + l + ", 2)", x -> x.over(l, 2));
        }
        for (int period : outside(0, 999)) {
            add(all, "wish(0, " + period + ", 9)", x -> x.wish(0, period, 9));
        }
        for (int w : outside(-500, 500)) {
            add(all, "wish(0, 50, " + w + ")", x -> x.wish(0, 50, w));
        }
        for (int what : outside(0, 2)) {
            add(all, "wished(0, " + what + ")", x -> x.wished(0, what));
            add(all, "wished(99, " + what + ")", x -> x.wished(99, what));
            add(all, "over(0, " + what + ")", x -> x.over(0, what));
        }
        for (int what : outside(0, 3)) {
            add(all, "state(0, " + what + ")", x -> x.state(0, what));
            add(all, "memory(0, " + what + ")", x -> x.memory(0, what));
            add(all, "memory(99, " + what + ")", x -> x.memory(99, what));
        }
        for (int k : new int[] {-1, Integer.MIN_VALUE}) {
            add(all, "wished(" + k + ", 0)", x -> x.wished(k, 0));
            add(all, "memory(" + k + ", 0)", x -> x.memory(k, 0));
        }
        for (int n : outside(1, 50)) {
            add(all, "steps(" + n + ")", x -> x.steps(n));
        }
        for (int m : outside(0, 500)) {
            add(all, "settles(" + m + ")", x -> x.settles(m));
            add(all, "tunes(" + m + ")", x -> x.tunes(m));
        }
        for (int c : outside(0, 127)) {
            add(all, "type(" + c + ")", x -> x.type(c));
        }
        for (int what : outside(0, 12)) {
            add(all, "count(" + what + ")", x -> x.count(what));
        }
    }

    private static List<Named> whatIsFull() {
        List<Named> all = new ArrayList<>();
        for (int k = 0; k < 3; k++) {
            int l = k;
            add(all, "wish(" + l + ", 0, 0)", x -> x.wish(l, 0, 0));
        }
        add(all, "wish(2, 999, 500)", x -> x.wish(2, 999, 500));
        for (int c : new int[] {0, 32, 'u', 127}) {
            add(all, "type(" + c + ")", x -> x.type(c));
        }
        return all;
    }

    private static List<Named> whatOnlyAsks() {
        List<Named> all = new ArrayList<>();
        add(all, "plan", x -> x.plan(0) + x.plan(1) + x.plan(2) + x.plan(3) + x.plan(4));
        add(all, "of", x -> x.of(0, 0) + x.of(1, 2) + x.of(2, 6));
        add(all, "at", x -> x.at(0, 0, 0) + x.at(1, 11, 1) + x.at(2, 5, 2) + x.at(2, 5, 3));
        add(all, "run", x -> x.run(0, 0) + x.run(1, 3) + x.run(99, 1));
        add(all, "seen", x -> x.seen(0) + x.seen(1));
        add(all, "told", x -> x.told(0) + x.told(1) + x.told(2));
        add(all, "both, off, dies", x -> x.both() + x.off(0) + x.dies(1));
        add(all, "event", x -> x.event(0, 0) + x.event(99, 1) + x.events());
        add(all, "shift", x -> x.shift(0) + x.shift(3) + x.shift(4));
        add(all, "wished", x -> x.wished(0, 0) + x.wished(99, 2));
        add(all, "settles", x -> x.settles(0) + x.settles(500));
        add(all, "tunes", x -> x.tunes(0) + x.tunes(500));
        add(all, "state", x -> x.state(0, 0) + x.state(2, 3));
        add(all, "memory", x -> x.memory(0, 0) + x.memory(99, 3));
        add(all, "over", x -> x.over(0, 0) + x.over(1, 1) + x.over(2, 2));
        add(all, "count, digest", x -> x.count(0) + x.count(12) + x.digest());
        // An unknown letter behind what may be read, or behind nothing.
        add(all, "a FAULT", x -> x.type('x') == DriveTicks.FULL ? 0 : x.reads());
        return all;
    }

    // ---- what is looked at

    private static void isRefused(Named one, Maker maker, int due, int kind) {
        DriveTicks x = maker.make();
        DriveTicks twin = maker.make();
        Check.same(one.name, one.call.on(x), due);
        for (int what = 0; what < 3; what++) {
            Check.same(one.name + " how often, " + what, x.count(what), twin.count(what) + (what == kind ? 1 : 0));
        }
        Check.sameList(one.name + " changes nothing", answers(x), answers(twin));
        Check.sameList(one.name + " and nothing later", later(x), later(twin));
        for (int what = 0; what < 3; what++) {
            Check.same(one.name + " how often then, " + what, x.count(what), twin.count(what) + (what == kind ? 1 : 0));
        }
    }

    private static void changesNothing(Named one, Maker maker) {
        DriveTicks x = maker.make();
        DriveTicks twin = maker.make();
        boolean faulty = one.name.equals("a FAULT");
        one.call.on(x);
        if (faulty) {
            // Its twin has the same bytes, but does not read them.
            twin.type('x');
        }
        Check.same(one.name + " changes no digest", x.digest(), twin.digest());
        Check.sameList(one.name + " changes nothing", answers(x), answers(twin));
        Check.sameList(one.name + " and nothing later", later(x), later(twin));
        Check.same(one.name + " changes no digest later", x.digest(), twin.digest());
    }

    /** All that can be asked without a change, but how often was refused. */
    private static List<Integer> answers(DriveTicks x) {
        List<Integer> all = new ArrayList<>();
        for (int what = 3; what <= 12; what++) {
            all.add(x.count(what));
        }
        for (int l = 0; l < 3; l++) {
            for (int what = 0; what < 4; what++) {
                all.add(x.state(l, what));
            }
            all.add(x.of(l, 0));
            all.add(x.of(l, 2));
            all.add(x.told(l));
            all.add(x.over(l, 0));
            all.add(x.over(l, 1));
            all.add(x.over(l, 2));
        }
        for (int k = 0; k <= 12; k++) {
            for (int what = 0; what < 3; what++) {
                all.add(x.wished(k, what));
            }
        }
        for (int k = 0; k <= 10; k++) {
            for (int what = 0; what < 4; what++) {
                all.add(x.memory(k, what));
            }
        }
        for (int what = 0; what < 5; what++) {
            all.add(x.plan(what));
            all.add(x.shift(what));
        }
        all.add(x.settles(30));
        all.add(x.tunes(30));
        return all;
    }

    /** What THE TEXT tells, and what STEPS make of it all. */
    private static List<Integer> later(DriveTicks x) {
        List<Integer> all = new ArrayList<>();
        all.add(x.reads());
        all.add(x.unwish(0));
        all.add(x.reads());
        all.add(x.steps(40));
        for (int l = 0; l < 3; l++) {
            for (int what = 0; what < 4; what++) {
                all.add(x.state(l, what));
            }
        }
        for (int what = 3; what <= 12; what++) {
            all.add(x.count(what));
        }
        all.add(x.clear());
        return all;
    }

    /** "how often": each refusal by one, of its own kind, and anew keeps them. */
    private static void refusalsAddUp() {
        DriveTicks x = full();
        for (int k = 1; k <= 20; k++) {
            x.draw(-k);
            Check.same("BAD so often", x.count(0), 2 * k - 1);
            x.wish(0, 0, 0);
            x.type('u');
            x.wish(3, 0, 0);
            Check.same("BAD so often then", x.count(0), 2 * k);
            Check.same("NO never", x.count(1), 0);
            Check.same("FULL so often", x.count(2), 2 * k);
        }
        x.anew();
        Check.same("BAD behind anew", x.count(0), 40);
        Check.same("FULL behind anew", x.count(2), 40);
        Check.same("room for a WISH behind anew", x.wish(0, 0, 0), 1);
        Check.same("no room for a byte behind anew", x.type(0), DriveTicks.FULL);
    }
}
