/** Promises 1 to 17 with numbers told by hand from the document: ordinary inputs, edges, wrong inputs. */
public final class PlanPromisesTest {
    public static void main(String[] args) {
        promise1NewObject();
        promise2Sets();
        promise3Leg();
        promise4Anew();
        promise5Draw();
        promise6Plan();
        promise6Over();
        promise7Of();
        promise7OfByCorrecting();
        promise8At();
        promise9Run();
        promise10Seen();
        promise11Told();
        promise12Both();
        promise13Off();
        promise14Dies();
        promise15Event();
        promise16Events();
        promise17Shift();
        promise17ShiftEdges();
        Check.finish("PlanPromisesTest");
    }

    private static void promise1NewObject() {
        DriveTicks x = new DriveTicks();
        int[] due = {0, 0, 0, 0, 0, 48, 2, 1, 4, 8, 4, 0, 0};
        for (int what = 0; what < due.length; what++) {
            Check.same("1 count(" + what + ")", x.count(what), due[what]);
        }
        for (int l = 0; l < 3; l++) {
            for (int what = 0; what < 4; what++) {
                Check.same("1 state(" + l + ", " + what + ")", x.state(l, what), 0);
            }
        }
        Check.same("1 NONE", DriveTicks.NONE, -1);
        Check.same("1 BAD", DriveTicks.BAD, -2);
        Check.same("1 NO", DriveTicks.NO, -3);
        Check.same("1 FULL", DriveTicks.FULL, -4);
        Check.same("1 memory", x.memory(0, 0), -1000);
        Check.same("1 wished", x.wished(0, 0), -1);
    }

    private static void promise2Sets() {
        int[] first = {48, 2, 1, 4, 8, 4, 0};
        int[] least = {12, 0, 0, 1, 0, 0, 0};
        int[] most = {96, 5, 1, 20, 20, 20, 1};
        DriveTicks x = new DriveTicks();
        for (int what = 0; what < 7; what++) {
            Check.same("2 least of " + what, x.sets(what, least[what]), first[what]);
            Check.same("2 most of " + what, x.sets(what, most[what]), least[what]);
            Check.same("2 again " + what, x.sets(what, least[what]), most[what]);
            Check.same("2 stands " + what, x.count(5 + what), least[what]);
            Drives.bad("2 below " + what, x, x.count(0), x.sets(what, least[what] - 1));
            Drives.bad("2 above " + what, x, x.count(0), x.sets(what, most[what] + 1));
            Drives.bad("2 far below " + what, x, x.count(0), x.sets(what, Integer.MIN_VALUE));
            Drives.bad("2 far above " + what, x, x.count(0), x.sets(what, Integer.MAX_VALUE));
            Check.same("2 stays " + what, x.count(5 + what), least[what]);
        }
        Drives.bad("2 odd", x, x.count(0), x.sets(0, 47));
        Drives.bad("2 odd least", x, x.count(0), x.sets(0, 13));
        Drives.bad("2 what below", x, x.count(0), x.sets(-1, 1));
        Drives.bad("2 what above", x, x.count(0), x.sets(7, 1));
        Drives.bad("2 what far", x, x.count(0), x.sets(Integer.MAX_VALUE, 1));
    }

    private static void promise3Leg() {
        DriveTicks x = new DriveTicks();
        for (int l = 0; l < 3; l++) {
            Check.same("3 demand", x.leg(l, 0, -200), 0);
            Check.same("3 demand was", x.leg(l, 0, 200), -200);
            Check.same("3 demand stands", x.state(l, 1), 200);
            Check.same("3 current", x.leg(l, 1, -999), 0);
            Check.same("3 current was", x.leg(l, 1, 999), -999);
            Check.same("3 current stands", x.state(l, 0), 999);
            Drives.bad("3 demand above", x, x.count(0), x.leg(l, 0, 201));
            Drives.bad("3 demand below", x, x.count(0), x.leg(l, 0, -201));
            Drives.bad("3 current above", x, x.count(0), x.leg(l, 1, 1000));
            Drives.bad("3 current below", x, x.count(0), x.leg(l, 1, -1000));
            Drives.bad("3 what above", x, x.count(0), x.leg(l, 2, 0));
            Drives.bad("3 what below", x, x.count(0), x.leg(l, -1, 0));
            Check.same("3 demand stays", x.state(l, 1), 200);
            Check.same("3 current stays", x.state(l, 0), 999);
        }
        for (int l : Drives.NO_LEGS) {
            Drives.bad("3 leg " + l, x, x.count(0), x.leg(l, 0, 0));
        }
    }

    private static void promise4Anew() {
        DriveTicks x = Drives.demanding(5, 6, 7);
        Drives.withCurrents(x, 1, 2, 3);
        x.sets(0, 24);
        x.sets(1, 3);
        x.sets(2, 0);
        x.sets(3, 9);
        x.sets(4, 1);
        x.sets(5, 1);
        x.sets(6, 1);
        x.wish(0, 0, 9);
        x.wish(1, 999, 9);
        x.steps(7);
        x.steps(0);
        x.type('u');
        for (int k = 0; k < 12; k++) {
            x.wish(2, 900, k);
        }
        int full = x.count(2);
        Check.isTrue("4 was refused by FULL", full > 0);
        Check.same("4 anew", x.anew(), 7);
        int[] due = {1, 0, full, 0, 0, 48, 2, 1, 4, 8, 4, 0, 1};
        for (int what = 0; what < due.length; what++) {
            Check.same("4 count(" + what + ")", x.count(what), due[what]);
        }
        for (int l = 0; l < 3; l++) {
            for (int what = 0; what < 4; what++) {
                Check.same("4 state(" + l + ", " + what + ")", x.state(l, what), 0);
            }
        }
        Check.same("4 memory", x.memory(0, 0), -1000);
        Check.same("4 over", x.over(0, 2), -1000);
        Check.same("4 anew again", x.anew(), 0);
    }

    private static void promise5Draw() {
        DriveTicks x = new DriveTicks();
        // SEED 0: X is 12345; then 12345 * 1103515245 + 12345 = 1406932606 by 2147483648 left over; then 654583775.
        long[] xs = {12345L, 1406932606L, 654583775L};
        int spread = x.draw(0);
        int greatest = -1000;
        int least = 1000;
        for (int l = 0; l < 3; l++) {
            int demand = (int) (xs[l] / 65536 % 201) - 100;
            int current = (int) (xs[l] / 1024 % 401) - 200;
            Check.same("5 demand " + l, x.state(l, 1), demand);
            Check.same("5 current " + l, x.state(l, 0), current);
            greatest = Math.max(greatest, demand);
            least = Math.min(least, demand);
        }
        Check.same("5 spread", spread, greatest - least);
        Check.same("5 demand of leg 0 by hand", x.state(0, 1), -100);
        Check.same("5 current of leg 0 by hand", x.state(0, 0), -188);
        Check.same("5 most", x.draw(999999), x.plan(0));
        Drives.bad("5 above", x, x.count(0), x.draw(1000000));
        Drives.bad("5 below", x, x.count(0), x.draw(-1));
    }

    private static void promise6Plan() {
        // HIGH: (48 + 2u - 5) / 2 = 41, 16, 6; WANTED 3..43, 16..31, 21..26.
        DriveTicks x = Drives.demanding(20, -5, -15);
        int[] due = {35, 0, 7, 6, 7};
        for (int what = 0; what < 5; what++) {
            Check.same("6 plan(" + what + ")", x.plan(what), due[what]);
        }
        Drives.bad("6 above", x, x.count(0), x.plan(5));
        Drives.bad("6 below", x, x.count(0), x.plan(-1));
        DriveTicks even = new DriveTicks();
        int[] dueEven = {0, 0, 24, 24, 3};
        for (int what = 0; what < 5; what++) {
            Check.same("6 even plan(" + what + ")", even.plan(what), dueEven[what]);
        }
    }

    private static void promise6Over() {
        DriveTicks x = Drives.demanding(24, -24, 0);
        Check.same("6 spread is N", x.plan(0), 48);
        Check.same("6 N is not OVER", x.plan(1), 0);
        Check.same("6 RUNS without an end that is free", x.plan(4), 3);
        x.leg(0, 0, 25);
        Check.same("6 above N is OVER", x.plan(1), 1);
        // 25 * 48 / 49 = 24, -24 * 48 / 49 = -23 (cut towards 0), so m is 1:
        // HIGH (48 + 48 - 1) / 2 = 47, (48 - 46 - 1) / 2 = 0.
        Check.same("6 cut above", x.of(0, 0), 47);
        Check.same("6 cut below", x.of(1, 0), 0);
        Check.same("6 cut between", x.of(2, 0), 23);
    }

    private static void promise7Of() {
        DriveTicks x = Drives.demanding(20, -5, -15);
        int[][] due = {{41, 3, 39, 39, 5, 4, 1}, {16, 16, 14, 14, 30, 4, 1}, {6, 21, 4, 4, 40, 4, 1}};
        for (int l = 0; l < 3; l++) {
            for (int what = 0; what < 7; what++) {
                Check.same("7 of(" + l + ", " + what + ")", x.of(l, what), due[l][what]);
            }
            Drives.bad("7 above", x, x.count(0), x.of(l, 7));
            Drives.bad("7 below", x, x.count(0), x.of(l, -1));
        }
        for (int l : Drives.NO_LEGS) {
            Drives.bad("7 leg " + l, x, x.count(0), x.of(l, 0));
        }
        // All around and not at all: gates do not switch.
        DriveTicks y = Drives.demanding(200, -200, 0);
        int[][] ends = {{48, 0, 48, 48, 0, 0, 0}, {0, 24, 0, 0, 48, 0, 0}};
        for (int l = 0; l < 2; l++) {
            for (int what = 0; what < 7; what++) {
                Check.same("7 ends of(" + l + ", " + what + ")", y.of(l, what), ends[l][what]);
            }
        }
    }

    private static void promise7OfByCorrecting() {
        DriveTicks x = Drives.withCurrents(Drives.demanding(20, -5, -15), 1, -1, -40);
        Check.same("7 above 0: d more", x.of(0, 0), 43);
        Check.same("7 below 0: d less", x.of(1, 0), 14);
        Check.same("7 below 0: MEAN", x.of(1, 2), 16);
        Check.same("7 below 0: UPPER", x.of(1, 3), 12);
        Check.same("7 above 0: MEAN", x.of(0, 2), 41);
        x.sets(1, 5);
        Check.same("7 d 5 more", x.of(0, 0), 46);
        Check.same("7 d 5 less", x.of(2, 0), 1);
        Check.same("7 UPPER never on", x.of(2, 3), 0);
        Check.same("7 neither", x.of(2, 5), 6);
        Check.same("7 MEAN of neither", x.of(2, 2), 6);
        Check.same("7 does not come on", x.of(2, 6), 0);
        x.sets(2, 0);
        Check.same("7 not CORRECTING", x.of(0, 0), 41);
        // Pulled in at both ends.
        DriveTicks y = Drives.withCurrents(Drives.demanding(24, -24, 23), 5, -5, 7);
        Check.same("7 N at most", y.of(0, 0), 48);
        Check.same("7 0 at least", y.of(1, 0), 0);
        Check.same("7 47 and 2 are N at most", y.of(2, 0), 48);
    }

    private static void promise8At() {
        DriveTicks x = Drives.demanding(20, -5, -15);
        // LEG 1: WANTED 16..31, UPPER 18..31, LOWER 34..15 around.
        int[][] due = {{15, 0, 0, 1, 0}, {16, 1, 0, 0, 0}, {17, 1, 0, 0, 0}, {18, 1, 1, 0, 1}, {31, 1, 1, 0, 1},
            {32, 0, 0, 0, 0}, {33, 0, 0, 0, 0}, {34, 0, 0, 1, 0}, {47, 0, 0, 1, 0}, {0, 0, 0, 1, 0}};
        for (int[] row : due) {
            for (int what = 0; what < 4; what++) {
                Check.same("8 at(1, " + row[0] + ", " + what + ")", x.at(1, row[0], what), row[what + 1]);
            }
        }
        x.sets(2, 0);
        x.leg(1, 1, -1);
        Check.same("8 below 0 gives 1 where neither is on", x.at(1, 16, 3), 1);
        Check.same("8 below 0 behind", x.at(1, 33, 3), 1);
        Check.same("8 below 0 with LOWER", x.at(1, 34, 3), 0);
        x.leg(1, 1, 1);
        Check.same("8 above 0 gives 0 where neither is on", x.at(1, 16, 3), 0);
        Drives.bad("8 tick N", x, x.count(0), x.at(0, 48, 0));
        Drives.bad("8 tick below", x, x.count(0), x.at(0, -1, 0));
        Drives.bad("8 what above", x, x.count(0), x.at(0, 0, 4));
        Drives.bad("8 what below", x, x.count(0), x.at(0, 0, -1));
        for (int l : Drives.NO_LEGS) {
            Drives.bad("8 leg " + l, x, x.count(0), x.at(l, 0, 0));
        }
        roundInAPeriod();
    }

    private static void roundInAPeriod() {
        // HIGH 47, d 2: only TICK 47 is not WANTED, so UPPER is off at 47, 0 and 1.
        DriveTicks x = Drives.demanding(24, -24, 23);
        Check.same("8 high", x.of(2, 0), 47);
        int[] off = {47, 0, 1};
        for (int tick : off) {
            Check.same("8 UPPER off at " + tick, x.at(2, tick, 1), 0);
            Check.same("8 LOWER off at " + tick, x.at(2, tick, 2), 0);
        }
        Check.same("8 UPPER on at 2", x.at(2, 2, 1), 1);
        Check.same("8 UPPER on at 46", x.at(2, 46, 1), 1);
        Check.same("8 TICKS on", x.of(2, 3), 45);
        x.sets(0, 12);
        Drives.bad("8 tick of another N", x, x.count(0), x.at(0, 12, 0));
        Check.same("8 last tick of another N", x.at(0, 11, 0), 1);
    }

    private static void promise9Run() {
        DriveTicks x = Drives.demanding(20, -5, -15);
        int[][] due = {{0, 3, 0, -1}, {3, 13, 1, 0}, {16, 5, 3, 2}, {21, 6, 7, -1}, {27, 5, 3, 2}, {32, 12, 1, 0},
            {44, 4, 0, -1}};
        for (int k = 0; k < due.length; k++) {
            for (int what = 0; what < 4; what++) {
                Check.same("9 run(" + k + ", " + what + ")", x.run(k, what), due[k][what]);
            }
        }
        x.sets(3, 5);
        Check.same("9 WINDOW as long as the RUN", x.run(2, 3), 2);
        x.sets(3, 6);
        Check.same("9 WINDOW longer than the RUN", x.run(2, 3), -1);
        Check.same("9 not so many", x.run(7, 0), -1);
        Check.same("9 not so many by far", x.run(Integer.MAX_VALUE, 3), -1);
        Drives.bad("9 k below", x, x.count(0), x.run(-1, 0));
        Drives.bad("9 what above", x, x.count(0), x.run(0, 4));
        Drives.bad("9 what below", x, x.count(0), x.run(0, -1));
        Drives.bad("9 what above with k above", x, x.count(0), x.run(99, 4));
        patternsOfTwo();
    }

    private static void patternsOfTwo() {
        int[][] demands = {{15, 5, -20, 2}, {15, -20, 5, 1}, {-20, 15, 5, 0}};
        for (int[] d : demands) {
            DriveTicks x = Drives.demanding(d[0], d[1], d[2]);
            Check.same("9 two tell the third " + d[3], x.run(2, 3), d[3]);
            Check.same("9 two as bits " + d[3], x.run(2, 2), 7 - (1 << d[3]));
        }
    }

    private static void promise10Seen() {
        DriveTicks x = Drives.demanding(20, -5, -15);
        Check.same("10 bits", x.seen(0), 5);
        Check.same("10 how many", x.seen(1), 2);
        x.sets(3, 6);
        Check.same("10 one left", x.seen(0), 1);
        Check.same("10 one", x.seen(1), 1);
        x.sets(3, 14);
        Check.same("10 none", x.seen(0), 0);
        Check.same("10 no one", x.seen(1), 0);
        Drives.bad("10 above", x, x.count(0), x.seen(2));
        Drives.bad("10 below", x, x.count(0), x.seen(-1));
    }

    private static void promise11Told() {
        DriveTicks x = Drives.withCurrents(Drives.demanding(20, -5, -15), 100, 60, 40);
        x.sets(2, 0);
        Check.same("11 SEEN", x.told(0), 100);
        Check.same("11 SEEN too", x.told(2), 40);
        Check.same("11 0 less both", x.told(1), -140);
        x.sets(3, 6);
        Check.same("11 one SEEN", x.told(0), 100);
        Check.same("11 can not be", x.told(1), -1000);
        Check.same("11 can not be either", x.told(2), -1000);
        x.sets(3, 14);
        Check.same("11 none SEEN", x.told(0), -1000);
        for (int l : Drives.NO_LEGS) {
            Drives.bad("11 leg " + l, x, x.count(0), x.told(l));
        }
    }

    private static void promise12Both() {
        DriveTicks x = new DriveTicks();
        for (int seed = 0; seed < 20; seed++) {
            x.draw(seed * 4999);
            for (int dead = 0; dead <= 5; dead++) {
                x.sets(1, dead);
                Check.same("12 both", x.both(), 0);
            }
        }
    }

    private static void promise13Off() {
        DriveTicks x = Drives.demanding(20, -5, -15);
        Check.same("13 no CURRENT", x.off(0), -2);
        Drives.withCurrents(x, 100, -60, -40);
        Check.same("13 CORRECTING above 0", x.off(0), 0);
        Check.same("13 CORRECTING below 0", x.off(1), 0);
        x.sets(2, 0);
        Check.same("13 above 0", x.off(0), -2);
        Check.same("13 below 0", x.off(1), 2);
        x.sets(2, 1);
        x.sets(1, 5);
        // HIGH 6 less 5 is 1: LOWER is off at 6 TICKS, which all give 1.
        Check.same("13 as much", x.off(2), 0);
        DriveTicks y = Drives.withCurrents(Drives.demanding(24, -24, -20), 0, 0, -1);
        y.sets(1, 5);
        Check.same("13 HIGH 4 less 5 pulled in", y.off(2), -4);
        for (int l : Drives.NO_LEGS) {
            Drives.bad("13 leg " + l, x, x.count(0), x.off(l));
        }
    }

    private static void promise14Dies() {
        DriveTicks x = Drives.demanding(20, -5, -15);
        Check.same("14 HIGH 6 is on with 5", x.dies(2), -1);
        x.leg(2, 1, -40);
        Check.same("14 HIGH 6 less d, below 0", x.dies(2), 3);
        x.sets(2, 0);
        Check.same("14 not CORRECTING", x.dies(2), -1);
        DriveTicks y = Drives.demanding(24, -24, -19);
        Check.same("14 HIGH 5", y.dies(2), 5);
        y.leg(2, 0, -23);
        Check.same("14 HIGH 1", y.dies(2), 1);
        Check.same("14 HIGH 0", y.dies(1), 0);
        Check.same("14 HIGH N", y.dies(0), -1);
        y.leg(2, 1, 1);
        Check.same("14 HIGH 1 and d more", y.dies(2), -1);
        y.leg(1, 1, 1);
        Check.same("14 HIGH 0 and d more", y.dies(1), 0);
        Check.same("14 DEAD stays", y.count(6), 2);
        for (int l : Drives.NO_LEGS) {
            Drives.bad("14 leg " + l, x, x.count(0), x.dies(l));
        }
    }

    private static void promise15Event() {
        DriveTicks x = Drives.demanding(20, -5, -15);
        int[][] due = {{3, 0, 1, 0}, {5, 0, 0, 1}, {16, 1, 1, 0}, {18, 1, 0, 1}, {21, 2, 1, 0}, {23, 2, 0, 1},
            {27, 2, 0, 0}, {29, 2, 1, 1}, {32, 1, 0, 0}, {34, 1, 1, 1}, {44, 0, 0, 0}, {46, 0, 1, 1}};
        for (int k = 0; k < due.length; k++) {
            for (int what = 0; what < 4; what++) {
                Check.same("15 event(" + k + ", " + what + ")", x.event(k, what), due[k][what]);
            }
        }
        Check.same("15 not so many", x.event(12, 0), -1);
        Check.same("15 not so many by far", x.event(Integer.MAX_VALUE, 0), -1);
        Drives.bad("15 k below", x, x.count(0), x.event(-1, 0));
        Drives.bad("15 what above", x, x.count(0), x.event(0, 4));
        Drives.bad("15 what below", x, x.count(0), x.event(0, -1));
        Drives.bad("15 what above with k above", x, x.count(0), x.event(99, 4));
        eventsAtOneTick();
    }

    private static void eventsAtOneTick() {
        // All LEGS alike and no DEAD: at 12 and at 36 all six gates switch, by LEGS, UPPER ahead of LOWER.
        DriveTicks x = new DriveTicks();
        x.sets(1, 0);
        for (int k = 0; k < 12; k++) {
            Check.same("15 TICK of " + k, x.event(k, 0), k < 6 ? 12 : 36);
            Check.same("15 LEG of " + k, x.event(k, 1), k % 6 / 2);
            Check.same("15 gate of " + k, x.event(k, 2), k % 2);
            Check.same("15 way of " + k, x.event(k, 3), (k < 6) == (k % 2 == 0) ? 1 : 0);
        }
        // HIGH 47, d 2: UPPER goes off at 47 and comes on at 2, behind the end.
        DriveTicks y = Drives.demanding(24, -24, 23);
        Check.same("15 round TICK", y.event(0, 0), 2);
        Check.same("15 round comes on", y.event(0, 3), 1);
        Check.same("15 round TICK off", y.event(1, 0), 47);
        Check.same("15 round goes off", y.event(1, 3), 0);
        Check.same("15 round events", y.events(), 2);
    }

    private static void promise16Events() {
        Check.same("16 twelve", Drives.demanding(20, -5, -15).events(), 12);
        Check.same("16 four", Drives.demanding(200, -200, 0).events(), 4);
        DriveTicks x = Drives.demanding(200, -200, -200);
        Check.same("16 none", x.events(), 0);
        x.leg(2, 0, -184);
        // HIGH of LEG 2 is 2, d 2: only LOWER switches.
        Check.same("16 HIGH", x.of(2, 0), 2);
        Check.same("16 two", x.events(), 2);
    }

    private static void promise17Shift() {
        DriveTicks x = Drives.demanding(20, -5, -15);
        Drives.shiftIs("17 as it is", x, 0, 0, 0, 0, 1);
        Drives.bad("17 above", x, x.count(0), x.shift(5));
        Drives.bad("17 below", x, x.count(0), x.shift(-1));
        // All alike: two RUNS of 4 in front need 4 and 4 TICKS, in any of the LEGS' six orders.
        Drives.shiftIs("17 all alike", new DriveTicks(), -4, 0, 4, 8, 6);
        DriveTicks far = new DriveTicks();
        far.sets(3, 6);
        Drives.shiftIs("17 as far as may be", far, -6, 0, 6, 12, 6);
        far.sets(3, 7);
        Drives.shiftIs("17 none", far, -1000, -1000, -1000, -1000, -1000);
        Drives.bad("17 above with none", far, far.count(0), far.shift(5));
    }

    private static void promise17ShiftEdges() {
        // N 12: HIGH 12, 0, 7; RUNS 2, 7, 3 of LEG 2 in LEG 0, so that one TICK less shows LEG 0 too.
        DriveTicks x = Drives.demanding(200, -200, 50);
        x.sets(0, 12);
        Drives.shiftIs("17 HIGH N and HIGH 0 stay", x, 0, 0, -1, 1, 1);
        // WINDOW 5: LEG 2 at 0 .. 6 leaves 5 behind it.
        x.sets(3, 5);
        Drives.shiftIs("17 to the edge", x, 0, 0, -2, 2, 1);
        x.sets(3, 6);
        Check.same("17 not over the edge", x.shift(3), -1000);
        Check.same("17 SHIFTS are not made", x.of(2, 1), 2);
        // HIGH even all around: like ones to both sides, LEG 2's least first.
        DriveTicks y = Drives.demanding(24, -24, 0);
        y.sets(3, 13);
        Drives.shiftIs("17 to both sides", y, 0, 0, -1, 1, 2);
        promise17MostTogether();
    }

    private static void promise17MostTogether() {
        // WANTED 20..73, 33..60, 8..60 then: {0, 2} at 20..32 tells LEG 1, {0} at 61..73 tells LEG 0, 13 TICKS each.
        DriveTicks x = Drives.demanding(6, -20, 5);
        x.sets(0, 82);
        x.sets(1, 0);
        x.sets(3, 13);
        Drives.shiftIs("17 all three as far as may be", x, 6, 6, -6, 18, 1);
        // WANTED 4..50, 28..50, 17..37 then: {0} at 4..16, {0, 1} at 38..50; all of it turned round does, too.
        DriveTicks y = Drives.demanding(12, -12, -14);
        y.sets(0, 68);
        y.sets(1, 0);
        y.sets(3, 13);
        Drives.shiftIs("17 two like ones of the most", y, -6, 6, -6, 18, 2);
    }
}
