/**
 * What is told and the plan, promises 1 to 17: each sentence of the document that names a boundary case has a
 * method of its own here, with the sentence above it and numbers told by hand (those of draw by a model apart from
 * the class).
 */
public final class PlanEdgesTest {
    public static void main(String[] args) {
        theNumbersThatAreTold();
        thePlan();
        theGates();
        theRuns();
        theEvents();
        theShifts();
        theCallsOfThePlan();
        Check.finish("PlanEdgesTest");
    }

    private static void theNumbersThatAreTold() {
        ticksOfAPeriod();
        deadTicks();
        currents();
        demands();
        correctingOnOrOff();
        windows();
        steeringNotAtFirst();
        setsRefusesWhatItDoesNotHave();
    }

    private static void thePlan() {
        spreads();
        overAboveNAlone();
        smallerPeriodIsOver();
        demandsThatCountAreCut();
        highIsCut();
        correctingByTheSign();
        highAtMostN();
        highAtLeastNone();
        wantedFromSOn();
    }

    private static void theGates() {
        upperGoesRound();
        lowerGoesRound();
        upperNeedsOneMoreThanDead();
        lowerNeedsOneMoreThanDead();
        allAroundAndNeverNeedNoDead();
        givesByTheWayOfTheCurrent();
        meansAtBothEnds();
    }

    private static void theRuns() {
        runsDoNotGoRound();
        fewestAndMostRuns();
        runsOfOneTick();
        runOfAWindowTells();
        noneAndThreeTellNothing();
        oneLegAndTwoLegsTell();
        twoSeenTellTheThird();
        fewerThanTwoSeen();
    }

    private static void theEvents() {
        eventsAtTheFirstTick();
        eventsByTicksLegsGates();
        fewestAndMostEvents();
    }

    private static void theShifts() {
        shiftsOfNothing();
        shiftsSixAtMost();
        shiftsStayInThePeriod();
        shiftsOfHighOne();
        shiftsOfHighNone();
        shiftsByCurrentsAsTheyAre();
        shiftsTheFirstOfLikeOnes();
    }

    private static void theCallsOfThePlan() {
        drawSeeds();
        planTicksOfNoneAndOfAll();
        offAtItsEnds();
        diesByHigh();
        diesByTheWayOfTheCurrent();
        diesWhateverDeadIs();
        notSoManyIsNotRefused();
    }

    // ---- what is told

    /** "A PERIOD has N TICKS (even, 12 .. 96; 48 at first)." */
    private static void ticksOfAPeriod() {
        DriveTicks x = new DriveTicks();
        Check.same("N at first", x.count(5), 48);
        lastTickIs(x, 47);
        Check.same("N least", x.sets(0, 12), 48);
        lastTickIs(x, 11);
        Check.same("N most", x.sets(0, 96), 12);
        lastTickIs(x, 95);
        int[] refused = {11, 10, 97, 98, 13, 95, 49, 47, 1, 0, -12, -48, Integer.MIN_VALUE, Integer.MAX_VALUE};
        for (int n : refused) {
            Drives.bad("N " + n, x, x.count(0), x.sets(0, n));
            Check.same("N stays, not " + n, x.count(5), 96);
        }
        for (int n = 12; n <= 96; n += 2) {
            x.sets(0, n);
            Check.same("even N " + n, x.count(5), n);
        }
    }

    private static void lastTickIs(DriveTicks x, int last) {
        Check.same("TICK 0 of " + last, x.at(0, 0, 2), 1);
        Check.same("last TICK " + last, x.at(0, last, 2), 1);
        Drives.bad("TICK behind " + last, x, x.count(0), x.at(0, last + 1, 2));
        Drives.bad("TICK ahead of 0", x, x.count(0), x.at(0, -1, 2));
    }

    /** "DEAD d (0 .. 5; 2 at first)." */
    private static void deadTicks() {
        DriveTicks x = new DriveTicks();
        Check.same("DEAD at first", x.count(6), 2);
        Check.same("UPPER with DEAD at first", x.of(0, 3), 22);
        Check.same("DEAD least", x.sets(1, 0), 2);
        Check.same("UPPER with DEAD 0", x.of(0, 3), 24);
        Check.same("DEAD most", x.sets(1, 5), 0);
        Check.same("UPPER with DEAD 5", x.of(0, 3), 19);
        for (int d : new int[] {-1, 6, Integer.MIN_VALUE, Integer.MAX_VALUE}) {
            Drives.bad("DEAD " + d, x, x.count(0), x.sets(1, d));
            Check.same("DEAD stays, not " + d, x.count(6), 5);
        }
    }

    /** "CURRENTS i of LEGS (-999 .. 999; 0 at first)." */
    private static void currents() {
        DriveTicks x = new DriveTicks();
        for (int l = 0; l < 3; l++) {
            Check.same("CURRENT at first", x.leg(l, 1, -999), 0);
            Check.same("CURRENT least", x.leg(l, 1, 999), -999);
            for (int i : new int[] {-1000, 1000, Integer.MIN_VALUE, Integer.MAX_VALUE}) {
                Drives.bad("CURRENT " + i, x, x.count(0), x.leg(l, 1, i));
            }
            Check.same("CURRENT most", x.state(l, 0), 999);
            Check.same("DEMAND beside CURRENT", x.state(l, 1), 0);
        }
    }

    /** "DEMANDS u of LEGS (-200 .. 200; 0 at first)." */
    private static void demands() {
        DriveTicks x = new DriveTicks();
        for (int l = 0; l < 3; l++) {
            Check.same("DEMAND at first", x.leg(l, 0, -200), 0);
            Check.same("DEMAND least", x.leg(l, 0, 200), -200);
            for (int u : new int[] {-201, 201, 999, Integer.MIN_VALUE, Integer.MAX_VALUE}) {
                Drives.bad("DEMAND " + u, x, x.count(0), x.leg(l, 0, u));
            }
            Check.same("DEMAND most", x.state(l, 1), 200);
            Check.same("CURRENT beside DEMAND", x.state(l, 0), 0);
        }
        for (int what : new int[] {-1, 2, Integer.MIN_VALUE, Integer.MAX_VALUE}) {
            Drives.bad("leg what " + what, x, x.count(0), x.leg(0, what, 0));
        }
    }

    /** "CORRECTING is on (1, at first) or off." */
    private static void correctingOnOrOff() {
        DriveTicks x = Drives.withCurrents(new DriveTicks(), 1, 0, 0);
        Check.same("CORRECTING at first", x.of(0, 0), 26);
        Check.same("CORRECTING off", x.sets(2, 0), 1);
        Check.same("HIGH without", x.of(0, 0), 24);
        Check.same("CORRECTING on", x.sets(2, 1), 0);
        for (int v : new int[] {-1, 2, Integer.MIN_VALUE, Integer.MAX_VALUE}) {
            Drives.bad("CORRECTING " + v, x, x.count(0), x.sets(2, v));
            Check.same("CORRECTING stays, not " + v, x.of(0, 0), 26);
        }
    }

    /** "WINDOW W 1 .. 20; 4 at first". */
    private static void windows() {
        // LEG 2 in LEG 0 tells LEG 1 by a RUN as long as HIGH.
        Check.same("WINDOW at first, RUN of 4", Drives.withHigh(48, 4).run(1, 3), 1);
        Check.same("WINDOW at first, RUN of 3", Drives.withHigh(48, 3).run(1, 3), -1);
        DriveTicks x = Drives.withHigh(48, 20);
        Check.same("WINDOW most", x.sets(3, 20), 4);
        Check.same("WINDOW 20, RUN of 20", x.run(1, 3), 1);
        x.leg(2, 0, -5);
        Check.same("WINDOW 20, RUN of 19", x.run(1, 3), -1);
        x.leg(2, 0, -23);
        Check.same("WINDOW least", x.sets(3, 1), 20);
        Check.same("WINDOW 1, RUN of 1", x.run(1, 3), 1);
        for (int w : new int[] {0, -1, 21, Integer.MIN_VALUE, Integer.MAX_VALUE}) {
            Drives.bad("WINDOW " + w, x, x.count(0), x.sets(3, w));
            Check.same("WINDOW stays, not " + w, x.count(8), 1);
        }
        x.sets(3, 2);
        Check.same("WINDOW 2, RUN of 1", x.run(1, 3), -1);
    }

    /** "STEERING on (not at first)". */
    private static void steeringNotAtFirst() {
        DriveTicks x = new DriveTicks();
        Check.same("STEERING at first", x.sets(6, 1), 0);
        for (int v : new int[] {-1, 2, Integer.MIN_VALUE, Integer.MAX_VALUE}) {
            Drives.bad("STEERING " + v, x, x.count(0), x.sets(6, v));
            Check.same("STEERING stays, not " + v, x.count(11), 1);
        }
        Check.same("STEERING off", x.sets(6, 0), 1);
    }

    /** "N (what 0) .. STEERING (6) become v: what it was. BAD." */
    private static void setsRefusesWhatItDoesNotHave() {
        DriveTicks x = new DriveTicks();
        for (int what : new int[] {-1, 7, Integer.MIN_VALUE, Integer.MAX_VALUE}) {
            for (int v : new int[] {0, 1, 12}) {
                Drives.bad("sets(" + what + ", " + v + ")", x, x.count(0), x.sets(what, v));
            }
        }
        int[] first = {48, 2, 1, 4, 8, 4, 0};
        for (int what = 0; what < 7; what++) {
            Check.same("nothing is set: " + what, x.count(5 + what), first[what]);
        }
    }

    // ---- the plan

    /** "SPREAD: the greatest DEMAND less the least." */
    private static void spreads() {
        int[][] orders = {{7, -3, 2}, {7, 2, -3}, {-3, 7, 2}, {2, 7, -3}, {-3, 2, 7}, {2, -3, 7}};
        for (int[] u : orders) {
            Check.same("SPREAD of " + u[0] + " " + u[1] + " " + u[2], Drives.demanding(u[0], u[1], u[2]).plan(0), 10);
        }
        Check.same("SPREAD least", Drives.demanding(-200, -200, -200).plan(0), 0);
        Check.same("SPREAD most", Drives.demanding(-200, 0, 200).plan(0), 400);
        Check.same("SPREAD of DEMANDS above 0", Drives.demanding(200, 190, 195).plan(0), 10);
        Check.same("SPREAD of DEMANDS below 0", Drives.demanding(-200, -190, -195).plan(0), 10);
    }

    /** "If it is above N, it is OVER". */
    private static void overAboveNAlone() {
        for (int n = 12; n <= 96; n += 42) {
            DriveTicks x = Drives.withHigh(n, n / 2);
            Check.same("SPREAD is N " + n, x.plan(0), n);
            Check.same("SPREAD N is not OVER, N " + n, x.plan(1), 0);
            x.leg(0, 0, n / 2 + 1);
            Check.same("SPREAD N and 1 is OVER, N " + n, x.plan(1), 1);
            x.leg(0, 0, n / 2 - 1);
            Check.same("SPREAD N less 1 is not OVER, N " + n, x.plan(1), 0);
        }
        Check.same("no SPREAD is not OVER", Drives.demanding(200, 200, 200).plan(1), 0);
        Check.same("the most SPREAD is OVER", Drives.demanding(200, -200, 0).plan(1), 1);
    }

    /** "If it is above N, it is OVER", N as it is now. */
    private static void smallerPeriodIsOver() {
        DriveTicks x = Drives.demanding(24, -24, 0);
        x.sets(0, 46);
        Check.same("OVER by a smaller N", x.plan(1), 1);
        x.sets(0, 50);
        Check.same("not OVER by a greater N", x.plan(1), 0);
        // m 0: (50 + 48) / 2.
        Check.same("counts as it is", x.of(0, 0), 49);
    }

    /** "each DEMAND counts as itself times N by SPREAD", "All divisions are cut (towards 0)." */
    private static void demandsThatCountAreCut() {
        // -25 * 48 / 49 = -24.4, 24 * 48 / 49 = 23.5: -24 and 23, m -1.
        highsAre("below and above 0", Drives.demanding(-25, 24, 0), 0, 47, 24);
        // 24, -23.5: 24 and -23, m 1.
        highsAre("above and below 0", Drives.demanding(25, -24, 0), 47, 0, 23);
        // 200 * 48 / 199 = 48.2, 48 / 199 = 0.2, 100 * 48 / 199 = 24.1: 48, 0, 24, m 48.
        highsAre("all above 0", Drives.demanding(200, 1, 100), 48, 0, 24);
        DriveTicks small = Drives.demanding(200, -200, 199);
        small.sets(0, 12);
        // 6, -6, 199 * 12 / 400 = 5.97.
        highsAre("N 12", small, 12, 0, 11);
        DriveTicks large = Drives.demanding(200, -200, -199);
        large.sets(0, 96);
        // 48, -48, -199 * 96 / 400 = -47.76.
        highsAre("N 96", large, 96, 0, 1);
    }

    private static void highsAre(String what, DriveTicks x, int a, int b, int c) {
        Check.same("HIGH 0, " + what, x.of(0, 0), a);
        Check.same("HIGH 1, " + what, x.of(1, 0), b);
        Check.same("HIGH 2, " + what, x.of(2, 0), c);
    }

    /** "HIGH of a LEG: (N and 2 u less m) by 2", cut. */
    private static void highIsCut() {
        highsAre("m 1", Drives.demanding(1, 0, 0), 24, 23, 23);
        highsAre("m -1", Drives.demanding(0, 0, -1), 24, 24, 23);
        highsAre("m 400", Drives.demanding(200, 200, 200), 24, 24, 24);
        highsAre("m -400", Drives.demanding(-200, -200, -200), 24, 24, 24);
    }

    /** "CORRECTING: d more, if its CURRENT is above 0, d less, if below 0". */
    private static void correctingByTheSign() {
        DriveTicks x = Drives.withCurrents(new DriveTicks(), 1, 0, -1);
        highsAre("CURRENTS 1, 0, -1", x, 26, 24, 22);
        x.sets(1, 5);
        highsAre("DEAD 5", x, 29, 24, 19);
        Drives.withCurrents(x, 0, -999, 999);
        highsAre("CURRENTS 0, -999, 999", x, 24, 19, 29);
        x.sets(1, 0);
        highsAre("DEAD 0", x, 24, 24, 24);
        x.sets(1, 5);
        x.sets(2, 0);
        highsAre("not CORRECTING", x, 24, 24, 24);
    }

    /** "N at most". */
    private static void highAtMostN() {
        int[][] rows = {{48, 2, 45, 47}, {48, 2, 46, 48}, {48, 2, 47, 48}, {48, 2, 48, 48}, {48, 5, 42, 47},
            {48, 5, 43, 48}, {48, 5, 44, 48}, {48, 0, 47, 47}, {12, 5, 6, 11}, {12, 5, 7, 12}, {12, 5, 8, 12},
            {96, 5, 90, 95}, {96, 5, 91, 96}, {96, 5, 96, 96}};
        for (int[] row : rows) {
            highOfLegTwoIs(row, 1);
        }
    }

    /** "0 at least". */
    private static void highAtLeastNone() {
        int[][] rows = {{48, 2, 3, 1}, {48, 2, 2, 0}, {48, 2, 1, 0}, {48, 2, 0, 0}, {48, 5, 6, 1}, {48, 5, 5, 0},
            {48, 5, 4, 0}, {48, 0, 1, 1}, {12, 5, 6, 1}, {12, 5, 5, 0}, {12, 5, 0, 0}, {96, 5, 6, 1}, {96, 5, 5, 0}};
        for (int[] row : rows) {
            highOfLegTwoIs(row, -1);
        }
    }

    private static void highOfLegTwoIs(int[] row, int current) {
        DriveTicks x = Drives.withHigh(row[0], row[2]);
        x.sets(1, row[1]);
        x.leg(2, 1, current);
        Check.same("N " + row[0] + ", d " + row[1] + ", HIGH " + row[2] + ", CURRENT " + current, x.of(2, 0), row[3]);
    }

    /** "WANTED of a LEG: TICKS from s on, HIGH of them, s: (N less HIGH) by 2." */
    private static void wantedFromSOn() {
        int[][] rows = {{0, 24, -1}, {1, 23, 23}, {2, 23, 24}, {3, 22, 24}, {46, 1, 46}, {47, 0, 46}, {48, 0, 47}};
        for (int[] row : rows) {
            DriveTicks x = Drives.withHigh(48, row[0]);
            Check.same("HIGH " + row[0], x.of(2, 0), row[0]);
            Check.same("s of HIGH " + row[0], x.of(2, 1), row[1]);
            Drives.onlyFromTo("WANTED, HIGH " + row[0], x, 2, 0, row[1], row[2]);
        }
        Check.same("s of HIGH 1 of 12", Drives.withHigh(12, 1).of(2, 1), 5);
        Check.same("s of HIGH 95 of 96", Drives.withHigh(96, 95).of(2, 1), 0);
    }

    // ---- gates

    /** "TICKS of a PERIOD go round." UPPER, with the last TICK alone not WANTED. */
    private static void upperGoesRound() {
        for (int d = 0; d <= 5; d++) {
            DriveTicks x = Drives.withHigh(48, 47);
            x.sets(1, d);
            Drives.onlyFromTo("UPPER of HIGH 47, d " + d, x, 2, 1, d, 46);
            Check.same("TICKS of UPPER, d " + d, x.of(2, 3), 47 - d);
        }
        DriveTicks y = Drives.withHigh(12, 11);
        y.sets(1, 5);
        Drives.onlyFromTo("UPPER of HIGH 11 of 12", y, 2, 1, 5, 10);
    }

    /** "TICKS of a PERIOD go round." LOWER, with the TICKS at both ends alone not WANTED. */
    private static void lowerGoesRound() {
        // Not WANTED at 46, 47, 0: only 0 has two such ones ahead.
        DriveTicks x = Drives.withHigh(48, 45);
        Drives.onlyFromTo("LOWER of HIGH 45, d 2", x, 2, 2, 0, 0);
        x.sets(1, 3);
        Drives.onlyFromTo("LOWER of HIGH 45, d 3", x, 2, 2, 1, 0);
        // Not WANTED at 47 and 0.
        DriveTicks y = Drives.withHigh(48, 46);
        y.sets(1, 1);
        Drives.onlyFromTo("LOWER of HIGH 46, d 1", y, 2, 2, 0, 0);
        DriveTicks z = Drives.withHigh(12, 9);
        Drives.onlyFromTo("LOWER of HIGH 9 of 12", z, 2, 2, 0, 0);
    }

    /** "UPPER of a LEG is on at a TICK, if that one and the d ones ahead of it are all WANTED". */
    private static void upperNeedsOneMoreThanDead() {
        for (int d = 0; d <= 5; d++) {
            DriveTicks x = Drives.withHigh(48, d);
            x.sets(1, d);
            Check.same("HIGH d: UPPER never, d " + d, x.of(2, 3), 0);
            Check.same("HIGH d: UPPER does not come on, d " + d, x.of(2, 6), 0);
            x.leg(2, 0, d + 1 - 24);
            Check.same("HIGH d and 1: UPPER once, d " + d, x.of(2, 3), 1);
            Check.same("HIGH d and 1: UPPER comes on, d " + d, x.of(2, 6), 1);
            int last = x.of(2, 1) + d;
            Drives.onlyFromTo("HIGH d and 1, d " + d, x, 2, 1, last, last);
        }
    }

    /** "LOWER, if none of these is." */
    private static void lowerNeedsOneMoreThanDead() {
        for (int d = 0; d <= 5; d++) {
            DriveTicks x = Drives.withHigh(48, 48 - d);
            x.sets(1, d);
            Check.same("all but d: LOWER never, d " + d, x.of(2, 4), 0);
            x.leg(2, 0, 47 - d - 24);
            Check.same("all but d and 1: LOWER once, d " + d, x.of(2, 4), 1);
            Check.same("neither, d " + d, x.of(2, 5), 2 * d);
        }
    }

    /** "all WANTED", "none of these": a LEG that is so all around has no edge to wait at. */
    private static void allAroundAndNeverNeedNoDead() {
        int[][] due = {{48, 0, 48, 48, 0, 0, 0}, {0, 24, 0, 0, 48, 0, 0}};
        for (int d = 0; d <= 5; d++) {
            DriveTicks x = Drives.withHigh(48, 24);
            x.sets(1, d);
            for (int l = 0; l < 2; l++) {
                for (int what = 0; what < 7; what++) {
                    Check.same("d " + d + " of(" + l + ", " + what + ")", x.of(l, what), due[l][what]);
                }
            }
        }
        DriveTicks x = Drives.withHigh(48, 24);
        x.sets(1, 5);
        Drives.onlyFromTo("UPPER all around", x, 0, 1, 0, 47);
        Drives.onlyFromTo("LOWER all around", x, 1, 2, 0, 47);
        Drives.onlyFromTo("UPPER never", x, 1, 1, 1, 0);
    }

    /** "A LEG GIVES 1 at a TICK, if UPPER is on; 0, if LOWER is; else 1, if its CURRENT is below 0, else 0." */
    private static void givesByTheWayOfTheCurrent() {
        // WANTED 12 .. 35: neither is on at 12, 13, 36, 37.
        DriveTicks x = Drives.withHigh(48, 24);
        x.sets(2, 0);
        for (int i : new int[] {-999, -1}) {
            x.leg(2, 1, i);
            Drives.onlyFromTo("GIVES, CURRENT " + i, x, 2, 3, 12, 37);
            Check.same("MEAN, CURRENT " + i, x.of(2, 2), 26);
        }
        for (int i : new int[] {0, 1, 999}) {
            x.leg(2, 1, i);
            Drives.onlyFromTo("GIVES, CURRENT " + i, x, 2, 3, 14, 35);
            Check.same("MEAN, CURRENT " + i, x.of(2, 2), 22);
        }
    }

    /** "MEAN: how many TICKS it GIVES 1." */
    private static void meansAtBothEnds() {
        int[][] rows = {{0, -999, 0}, {0, 0, 0}, {1, 0, 0}, {1, -1, 3}, {47, 0, 45}, {47, -1, 48}, {46, -1, 48},
            {45, -1, 47}, {48, 0, 48}, {48, 999, 48}, {48, -999, 48}};
        for (int[] row : rows) {
            DriveTicks x = Drives.withHigh(48, row[0]);
            x.sets(2, 0);
            x.leg(2, 1, row[1]);
            Check.same("MEAN of HIGH " + row[0] + ", CURRENT " + row[1], x.of(2, 2), row[2]);
        }
    }

    // ---- runs

    /** "RUNS: rows of TICKS of like PATTERN, as long as can be, from TICK 0 on (not going round)." */
    private static void runsDoNotGoRound() {
        DriveTicks x = new DriveTicks();
        int[][] due = {{0, 12, 0, -1}, {12, 24, 7, -1}, {36, 12, 0, -1}};
        runsAre("first and last are alike", x, due);
        // LEG 0 ahead of LEG 2 and behind it: 4 and 3 TICKS are not 7 together.
        DriveTicks y = Drives.withHigh(12, 5);
        runsAre("two ends of one LEG", y, new int[][] {{0, 3, 1, -1}, {3, 5, 5, 1}, {8, 4, 1, 0}});
        y.sets(3, 5);
        Check.same("no RUN of 5 at the ends", y.seen(0), 2);
    }

    private static void runsAre(String what, DriveTicks x, int[][] due) {
        Check.same(what + " plan(4)", x.plan(4), due.length);
        for (int k = 0; k < due.length; k++) {
            for (int column = 0; column < 4; column++) {
                Check.same(what + " run(" + k + ", " + column + ")", x.run(k, column), due[k][column]);
            }
        }
        for (int column = 0; column < 4; column++) {
            Check.same(what + " run behind the last", x.run(due.length, column), -1);
        }
    }

    /** "how many RUNS", "NONE: not so many." */
    private static void fewestAndMostRuns() {
        runsAre("one RUN", Drives.demanding(200, -200, -200), new int[][] {{0, 48, 1, 0}});
        runsAre("one RUN of two LEGS", Drives.demanding(200, -200, 200), new int[][] {{0, 48, 5, 1}});
        runsAre("two RUNS", Drives.withHigh(48, 47), new int[][] {{0, 47, 5, 1}, {47, 1, 1, -1}});
        runsAre("seven RUNS", Drives.demanding(20, -5, -15), new int[][] {{0, 3, 0, -1}, {3, 13, 1, 0},
            {16, 5, 3, 2}, {21, 6, 7, -1}, {27, 5, 3, 2}, {32, 12, 1, 0}, {44, 4, 0, -1}});
    }

    /** "as long as can be": one TICK at least. */
    private static void runsOfOneTick() {
        runsAre("HIGH 1", Drives.withHigh(48, 1), new int[][] {{0, 23, 1, 0}, {23, 1, 5, -1}, {24, 24, 1, 0}});
        runsAre("HIGH 46", Drives.withHigh(48, 46), new int[][] {{0, 1, 1, -1}, {1, 46, 5, 1}, {47, 1, 1, -1}});
        runsAre("HIGH 0 makes no RUN", Drives.withHigh(48, 0), new int[][] {{0, 48, 1, 0}});
        runsAre("HIGH N makes no RUN", Drives.withHigh(48, 48), new int[][] {{0, 48, 5, 1}});
    }

    /** "SEEN: a RUN of W TICKS or more .. tells". */
    private static void runOfAWindowTells() {
        for (int w = 1; w <= 20; w++) {
            DriveTicks x = Drives.withHigh(96, w);
            x.sets(3, w);
            Check.same("RUN of W " + w, x.run(1, 3), 1);
            Check.same("SEEN by W " + w, x.seen(0), 3);
            x.leg(2, 0, w + 1 - 48);
            Check.same("RUN of W and 1, " + w, x.run(1, 3), 1);
            x.leg(2, 0, w - 1 - 48);
            Check.same("not SEEN by W less 1, " + w, x.seen(0), 1);
        }
    }

    /** "with none, with three nothing." */
    private static void noneAndThreeTellNothing() {
        DriveTicks x = new DriveTicks();
        x.sets(3, 1);
        for (int k = 0; k < 3; k++) {
            Check.same("RUN of none or of three " + k, x.run(k, 3), -1);
        }
        Check.same("none SEEN", x.seen(0), 0);
        Check.same("none SEEN, how many", x.seen(1), 0);
        for (int l = 0; l < 3; l++) {
            Check.same("none TOLD", x.told(l), -1000);
        }
    }

    /** "with one LEG in its PATTERN tells that one's CURRENT, with two the third one's". */
    private static void oneLegAndTwoLegsTell() {
        int[][] rows = {{20, -5, -15, 0, 2}, {20, -15, -5, 0, 1}, {-5, 20, -15, 1, 2}, {-15, 20, -5, 1, 0},
            {-5, -15, 20, 2, 1}, {-15, -5, 20, 2, 0}};
        for (int[] row : rows) {
            DriveTicks x = Drives.demanding(row[0], row[1], row[2]);
            Check.same("one LEG in it " + row[3], x.run(1, 2), 1 << row[3]);
            Check.same("tells itself " + row[3], x.run(1, 3), row[3]);
            Check.same("two LEGS in it, not " + row[4], x.run(2, 2), 7 - (1 << row[4]));
            Check.same("tells the third " + row[4], x.run(2, 3), row[4]);
            Check.same("SEEN LEGS", x.seen(0), (1 << row[3]) + (1 << row[4]));
            Check.same("two SEEN", x.seen(1), 2);
            toldByTheOthers(x, row[3], row[4]);
        }
    }

    private static void toldByTheOthers(DriveTicks x, int one, int other) {
        int third = 3 - one - other;
        x.sets(2, 0);
        x.leg(one, 1, 10);
        x.leg(other, 1, -3);
        x.leg(third, 1, 77);
        Check.same("TOLD as it is " + one, x.told(one), 10);
        Check.same("TOLD as it is " + other, x.told(other), -3);
        Check.same("TOLD as 0 less both " + third, x.told(third), -7);
    }

    /** "if there are two, the third one as 0 less both", CURRENTS at their ends. */
    private static void twoSeenTellTheThird() {
        DriveTicks x = Drives.withCurrents(Drives.demanding(20, -5, -15), 999, 5, 999);
        x.sets(2, 0);
        Check.same("TOLD least", x.told(1), -1998);
        Drives.withCurrents(x, -999, 5, -999);
        Check.same("TOLD most", x.told(1), 1998);
        Check.same("TOLD as it is, least", x.told(0), -999);
        Drives.withCurrents(x, 999, 5, -999);
        Check.same("TOLD 0", x.told(1), 0);
        Drives.withCurrents(x, 500, 5, 500);
        Check.same("TOLD -1000 is a CURRENT too", x.told(1), -1000);
        Drives.nothingRefused("told", x);
    }

    /** "-1000: it can not be." */
    private static void fewerThanTwoSeen() {
        DriveTicks x = Drives.withCurrents(Drives.withHigh(48, 3), 0, 6, 7);
        x.sets(2, 0);
        Check.same("one SEEN", x.seen(1), 1);
        Check.same("the one that is SEEN", x.told(0), 0);
        Check.same("the second", x.told(1), -1000);
        Check.same("the third", x.told(2), -1000);
        for (int l : Drives.NO_LEGS) {
            Drives.bad("told(" + l + ")", x, x.count(0), x.told(l));
        }
    }

    // ---- events

    /** "EVENTS of a PERIOD that goes round: a gate .. that is on at a TICK and was not at the one ahead". */
    private static void eventsAtTheFirstTick() {
        DriveTicks x = Drives.withHigh(48, 47);
        x.sets(1, 0);
        eventsAre("WANTED from TICK 0 on", x, new int[][] {{0, 2, 0, 1}, {0, 2, 1, 0}, {47, 2, 0, 0}, {47, 2, 1, 1}});
        // UPPER at 3 .. 45, LOWER at 0 alone.
        eventsAre("LOWER at TICK 0 alone", Drives.withHigh(48, 45),
            new int[][] {{0, 2, 1, 1}, {1, 2, 1, 0}, {3, 2, 0, 1}, {46, 2, 0, 0}});
        // UPPER at 2 .. 46, LOWER never.
        eventsAre("UPPER alone", Drives.withHigh(48, 47), new int[][] {{2, 2, 0, 1}, {47, 2, 0, 0}});
        // WANTED 23, 24: UPPER never, LOWER not at 23 .. 26.
        eventsAre("LOWER alone", Drives.withHigh(48, 2), new int[][] {{23, 2, 1, 0}, {27, 2, 1, 1}});
    }

    private static void eventsAre(String what, DriveTicks x, int[][] due) {
        Check.same(what + " events()", x.events(), due.length);
        for (int k = 0; k < due.length; k++) {
            for (int column = 0; column < 4; column++) {
                Check.same(what + " event(" + k + ", " + column + ")", x.event(k, column), due[k][column]);
            }
        }
        for (int column = 0; column < 4; column++) {
            Check.same(what + " event behind the last", x.event(due.length, column), -1);
        }
    }

    /** "by TICKS, at one TICK by LEGS, UPPER ahead of LOWER." */
    private static void eventsByTicksLegsGates() {
        DriveTicks x = new DriveTicks();
        x.sets(0, 12);
        x.sets(1, 0);
        // All LEGS are WANTED at 3 .. 8.
        eventsAre("all at one TICK", x, new int[][] {{3, 0, 0, 1}, {3, 0, 1, 0}, {3, 1, 0, 1}, {3, 1, 1, 0},
            {3, 2, 0, 1}, {3, 2, 1, 0}, {9, 0, 0, 0}, {9, 0, 1, 1}, {9, 1, 0, 0}, {9, 1, 1, 1}, {9, 2, 0, 0},
            {9, 2, 1, 1}});
        // d 2: LOWER goes off at 3, UPPER comes on at 5; and so behind.
        x.sets(1, 2);
        eventsAre("by TICKS first", x, new int[][] {{3, 0, 1, 0}, {3, 1, 1, 0}, {3, 2, 1, 0}, {5, 0, 0, 1},
            {5, 1, 0, 1}, {5, 2, 0, 1}, {9, 0, 0, 0}, {9, 1, 0, 0}, {9, 2, 0, 0}, {11, 0, 1, 1}, {11, 1, 1, 1},
            {11, 2, 1, 1}});
    }

    /** "How many EVENTS", "NONE: not so many." */
    private static void fewestAndMostEvents() {
        eventsAre("none", Drives.demanding(200, -200, -200), new int[0][]);
        DriveTicks x = Drives.demanding(20, -5, -15);
        Check.same("most", x.events(), 12);
        Check.same("last TICK", x.event(11, 0), 46);
        Check.same("behind the last", x.event(12, 0), -1);
        Check.same("far behind the last", x.event(Integer.MAX_VALUE, 3), -1);
        Drives.bad("k below 0", x, x.count(0), x.event(-1, 0));
        Drives.bad("k far below 0", x, x.count(0), x.event(Integer.MIN_VALUE, 0));
    }

    // ---- shifts

    /** "the BEST ones: of the fewest TICKS together": none at all, if two LEGS are SEEN as it is. */
    private static void shiftsOfNothing() {
        Drives.shiftIs("SEEN as it is", Drives.demanding(20, -5, -15), 0, 0, 0, 0, 1);
        Drives.shiftIs("one TICK is too few", Drives.withHigh(12, 7), 0, 0, -1, 1, 1);
    }

    /** "for each LEG so many TICKS (-6 .. 6)". */
    private static void shiftsSixAtMost() {
        // LEG 2 has 7 TICKS at each side of it: 13 at one side need 6, 14 need 7.
        DriveTicks x = Drives.withHigh(48, 34);
        x.sets(3, 12);
        Drives.shiftIs("five", x, 0, 0, -5, 5, 2);
        x.sets(3, 13);
        Drives.shiftIs("six", x, 0, 0, -6, 6, 2);
        x.sets(3, 14);
        Drives.shiftIs("seven", x, -1000, -1000, -1000, -1000, -1000);
        Drives.nothingRefused("no SHIFTS", x);
    }

    /** "such that all of WANTED stays in 0 .. N less 1". */
    private static void shiftsStayInThePeriod() {
        // LEG 2 has 4 TICKS at each side of it: 8 at one side, and none at the other.
        DriveTicks x = Drives.withHigh(48, 40);
        x.sets(3, 7);
        Drives.shiftIs("one TICK left", x, 0, 0, -3, 3, 2);
        x.sets(3, 8);
        Drives.shiftIs("up to both ends", x, 0, 0, -4, 4, 2);
        x.sets(3, 9);
        Drives.shiftIs("beyond them", x, -1000, -1000, -1000, -1000, -1000);
        // 4 TICKS ahead and 5 behind: 9 by 4 to the front, or by 5 to the back.
        DriveTicks y = Drives.withHigh(48, 39);
        y.sets(3, 9);
        Drives.shiftIs("the nearer end", y, 0, 0, -4, 4, 1);
        y.sets(3, 10);
        Drives.shiftIs("beyond the nearer end", y, -1000, -1000, -1000, -1000, -1000);
    }

    /** "(a LEG of HIGH 0: 0 alone)": one of HIGH 1 may move. */
    private static void shiftsOfHighOne() {
        // LEGS 1 and 2 are WANTED at TICK 23 alone: either of them one TICK aside shows all three.
        DriveTicks x = Drives.demanding(23, -23, -23);
        x.sets(3, 1);
        Check.same("HIGH of LEG 1", x.of(1, 0), 1);
        Drives.shiftIs("HIGH 1", x, 0, -1, 0, 1, 4);
    }

    /** "(a LEG of HIGH 0: 0 alone)", and one of HIGH N has no room: nothing moves. */
    private static void shiftsOfHighNone() {
        DriveTicks x = Drives.demanding(200, -200, -200);
        x.sets(3, 1);
        Drives.shiftIs("HIGH N and twice 0", x, -1000, -1000, -1000, -1000, -1000);
        Drives.bad("what above with none", x, x.count(0), x.shift(5));
        Drives.bad("what below with none", x, x.count(0), x.shift(-1));
    }

    /** "(RUNS as they would be then; the CURRENTS for CORRECTING as they are)". */
    private static void shiftsByCurrentsAsTheyAre() {
        // WINDOW 8; HIGH 36, 38, 34 leave 6, 5, 7 TICKS at each side.
        DriveTicks x = Drives.withHigh(48, 36);
        x.sets(3, 8);
        Drives.shiftIs("CURRENT 0", x, 0, 0, -2, 2, 2);
        x.leg(2, 1, 1);
        Drives.shiftIs("CURRENT above 0", x, 0, 0, -3, 3, 2);
        x.leg(2, 1, -1);
        Drives.shiftIs("CURRENT below 0", x, 0, 0, -1, 1, 2);
        Check.same("s is as it was", x.of(2, 1), 7);
    }

    /** "of like ones the first (LEG 0's least, then LEG 1's, then LEG 2's)." */
    private static void shiftsTheFirstOfLikeOnes() {
        // All alike: one LEG aside tells itself at both its ends, so two go aside, to two sides, in six ways.
        DriveTicks x = new DriveTicks();
        x.sets(3, 1);
        Drives.shiftIs("six ways", x, -1, 0, 1, 2, 6);
        x.sets(3, 6);
        Drives.shiftIs("six ways, as far as may be", x, -6, 0, 6, 12, 6);
        // LEGS 0 and 1 alike around LEG 2, 3 TICKS apart: by -3 0, -2 1, -1 2, 0 3 and those turned round.
        DriveTicks y = Drives.demanding(10, 10, -10);
        y.sets(3, 3);
        Drives.shiftIs("LEG 0 to the front", y, -3, 0, 0, 3, 8);
        DriveTicks z = Drives.demanding(-10, 10, 10);
        z.sets(3, 3);
        Drives.shiftIs("LEG 1 to the front", z, 0, -3, 0, 3, 8);
    }

    // ---- the calls

    /** "By a SEED (0 .. 999999) DEMANDS and CURRENTS .. SPREAD then." */
    private static void drawSeeds() {
        drawIs(0, new int[] {-100, -188, 62, -69, 39, -153}, 162);
        drawIs(1, new int[] {55, -24, 30, -163, -37, -125}, 92);
        drawIs(999999, new int[] {96, 164, -5, -114, 3, 146}, 101);
        DriveTicks x = new DriveTicks();
        x.draw(61);
        Check.same("DEMAND most", x.state(1, 1), 100);
        x.draw(4);
        Check.same("CURRENT most", x.state(1, 0), 200);
        x.draw(10);
        Check.same("CURRENT least", x.state(1, 0), -200);
        Check.same("SPREAD most", x.draw(373), 200);
        Check.same("SPREAD least", x.draw(40519), 0);
        for (int seed : new int[] {-1, 1000000, Integer.MIN_VALUE, Integer.MAX_VALUE}) {
            Drives.bad("draw(" + seed + ")", x, x.count(0), x.draw(seed));
            Check.same("nothing is drawn by " + seed, x.state(2, 1), 64);
        }
    }

    private static void drawIs(int seed, int[] due, int spread) {
        DriveTicks x = new DriveTicks();
        Check.same("draw(" + seed + ")", x.draw(seed), spread);
        for (int l = 0; l < 3; l++) {
            Check.same("SEED " + seed + ", DEMAND " + l, x.state(l, 1), due[2 * l]);
            Check.same("SEED " + seed + ", CURRENT " + l, x.state(l, 0), due[2 * l + 1]);
        }
    }

    /** "TICKS at which no LEG is WANTED (2), at which all are (3)". */
    private static void planTicksOfNoneAndOfAll() {
        DriveTicks x = new DriveTicks();
        x.sets(0, 12);
        x.sets(1, 5);
        ticksAre("HIGH 6", x, 6, 6);
        Drives.withCurrents(x, 1, 1, 1);
        ticksAre("HIGH 11", x, 1, 11);
        Drives.withCurrents(x, -1, -1, -1);
        ticksAre("HIGH 1", x, 11, 1);
        ticksAre("one all around, one never", Drives.withHigh(48, 24), 0, 0);
        for (int what : new int[] {-1, 5, Integer.MIN_VALUE, Integer.MAX_VALUE}) {
            Drives.bad("plan(" + what + ")", x, x.count(0), x.plan(what));
        }
    }

    private static void ticksAre(String what, DriveTicks x, int none, int all) {
        Check.same("no LEG WANTED, " + what, x.plan(2), none);
        Check.same("all LEGS WANTED, " + what, x.plan(3), all);
    }

    /** "How much more MEAN is than HIGH would be without CORRECTING." Rows: HIGH, CURRENT, off, off uncorrected. */
    private static void offAtItsEnds() {
        int[][] rows = {{24, 0, -5, -5}, {24, 1, 0, -5}, {24, -1, 0, 5}, {48, 1, 0, 0}, {48, -1, 0, 0}, {0, 1, 0, 0},
            {0, -1, 0, 0}, {46, 1, 2, -5}, {46, -1, 0, 2}, {3, -1, -3, 5}, {3, 1, 0, -3}, {47, 0, -5, -5}};
        for (int[] row : rows) {
            DriveTicks x = Drives.withHigh(48, row[0]);
            x.sets(1, 5);
            x.leg(2, 1, row[1]);
            Check.same("off of HIGH " + row[0] + ", CURRENT " + row[1], x.off(2), row[2]);
            x.sets(2, 0);
            Check.same("off uncorrected of HIGH " + row[0] + ", CURRENT " + row[1], x.off(2), row[3]);
        }
        DriveTicks x = new DriveTicks();
        for (int l : Drives.NO_LEGS) {
            Drives.bad("off(" + l + ")", x, x.count(0), x.off(l));
        }
    }

    /** "The least DEAD (0 .. 5) from which on a LEG's UPPER is never on; NONE: it is with 5, too." */
    private static void diesByHigh() {
        for (int h = 0; h <= 5; h++) {
            Check.same("dies of HIGH " + h, Drives.withHigh(48, h).dies(2), h);
        }
        Check.same("dies of HIGH 6", Drives.withHigh(48, 6).dies(2), -1);
        Check.same("dies of HIGH N", Drives.withHigh(48, 6).dies(0), -1);
        DriveTicks x = new DriveTicks();
        for (int l : Drives.NO_LEGS) {
            Drives.bad("dies(" + l + ")", x, x.count(0), x.dies(l));
        }
    }

    /** The same, HIGH being d less or d more by CORRECTING, each with the d that is tried. */
    private static void diesByTheWayOfTheCurrent() {
        int[] below = {0, 1, 1, 2, 2, 3, 3, 4, 4, 5, 5, -1, -1};
        for (int h = 0; h < below.length; h++) {
            DriveTicks x = Drives.withHigh(48, h);
            x.leg(2, 1, -1);
            Check.same("CURRENT below 0, dies of HIGH " + h, x.dies(2), below[h]);
            x.leg(2, 1, 1);
            Check.same("CURRENT above 0, dies of HIGH " + h, x.dies(2), h == 0 ? 0 : -1);
            x.sets(2, 0);
            Check.same("not CORRECTING, dies of HIGH " + h, x.dies(2), h <= 5 ? h : -1);
        }
    }

    /** "The least DEAD": not DEAD as it is, which stays. */
    private static void diesWhateverDeadIs() {
        DriveTicks x = Drives.withHigh(48, 7);
        x.leg(2, 1, -5);
        for (int d = 0; d <= 5; d++) {
            x.sets(1, d);
            Check.same("dies with DEAD " + d, x.dies(2), 4);
            Check.same("DEAD stays", x.count(6), d);
        }
    }

    /** "NONE: not so many", "-1000": answers that are not refusals, so nothing counts by them. */
    private static void notSoManyIsNotRefused() {
        DriveTicks x = new DriveTicks();
        x.sets(3, 20);
        Check.same("run", x.run(3, 0), -1);
        Check.same("run far", x.run(Integer.MAX_VALUE, 0), -1);
        Check.same("run that tells none", x.run(0, 3), -1);
        Check.same("event", x.event(12, 0), -1);
        Check.same("dies", x.dies(0), -1);
        Check.same("told", x.told(0), -1000);
        Check.same("shift", x.shift(0), -1000);
        Check.same("both", x.both(), 0);
        Drives.nothingRefused("not so many", x);
    }
}
