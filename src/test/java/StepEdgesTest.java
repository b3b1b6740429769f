/**
 * Steps, wishes and memory, promises 4, 18 to 26, 30 and 31: each sentence of the document that names a boundary
 * case has a method of its own here, with the sentence above it and numbers told by hand (those of tunes with
 * STEERING and of digest by a model apart from the class).
 */
public final class StepEdgesTest {
    public static void main(String[] args) {
        theWishes();
        theSteps();
        theSums();
        theDemands();
        theCurrents();
        settling();
        tuning();
        theMemory();
        countsAndDigest();
        Check.finish("StepEdgesTest");
    }

    private static void theWishes() {
        wishPeriods();
        wishWants();
        twelveWait();
        unwishFromNoneToAll();
        wishedUpToTheLast();
    }

    private static void theSteps() {
        periodsThatHaveCome();
        theLastPeriod();
        inTheOrderAsMade();
        wantsWithoutSteering();
        stepsFromOneToFifty();
        stepsThatWereOver();
    }

    private static void theSums() {
        sumsHeldBackByOneSignAlone();
        sumsHeldBackAboveNAlone();
        sumsByDemandsAheadOfTheStep();
        sumsAtBothEnds();
    }

    private static void theDemands() {
        parts();
        demandsAreCutEach();
        demandsAtBothEndsByP();
        demandsAtBothEndsByQ();
    }

    private static void theCurrents() {
        anEighthIsCut();
        aSixthIsCut();
        currentsAtBothEnds();
        meansByTheCurrentsAhead();
    }

    private static void settling() {
        settlesAtOnce();
        settlesAtItsDistance();
        settlesUpToSixty();
        settlesWithWishesThatWait();
        settlesAsAllIs();
        settlesKeepsNothing();
        settlesRefuses();
    }

    private static void tuning() {
        tunesNoneIsMoreThanAll();
        tunesTheLeastOfLikeOnes();
        tunesByNone();
        tunesRefuses();
    }

    private static void theMemory() {
        memoryOfNone();
        memoryOfTen();
        memoryIsOfCurrentsBehind();
        overOfNone();
        overOfTen();
        overWhereverItWas();
    }

    private static void countsAndDigest() {
        anewKeepsRefusalsAndText();
        countRefusesWhatItDoesNotHave();
        digestGoesRound();
    }

    /** STEERING by SUMS alone that ask for nothing: DEMANDS become 0, and CURRENTS of 0 stay 0. */
    private static DriveTicks summing() {
        DriveTicks x = new DriveTicks();
        x.sets(4, 0);
        x.sets(5, 0);
        x.sets(6, 1);
        return x;
    }

    // ---- wishes

    /** "a PERIOD (0 .. 999)". */
    private static void wishPeriods() {
        DriveTicks x = new DriveTicks();
        Check.same("PERIOD least", x.wish(0, 0, 1), 1);
        Check.same("PERIOD most", x.wish(0, 999, 1), 2);
        for (int period : new int[] {-1, 1000, Integer.MIN_VALUE, Integer.MAX_VALUE}) {
            Drives.bad("PERIOD " + period, x, x.count(0), x.wish(0, period, 1));
        }
        Check.same("two wait", x.count(4), 2);
        Drives.wishIs("least", x, 0, 0, 0, 1);
        Drives.wishIs("most", x, 1, 0, 999, 1);
    }

    /** "w (-500 .. 500)". */
    private static void wishWants() {
        DriveTicks x = new DriveTicks();
        Check.same("w least", x.wish(1, 0, -500), 1);
        Check.same("w most", x.wish(2, 0, 500), 2);
        for (int w : new int[] {-501, 501, Integer.MIN_VALUE, Integer.MAX_VALUE}) {
            Drives.bad("w " + w, x, x.count(0), x.wish(0, 0, w));
        }
        Check.same("two wait", x.count(4), 2);
        x.steps(1);
        Check.same("WANT least", x.state(1, 2), -500);
        Check.same("WANT most", x.state(2, 2), 500);
    }

    /** "12 at most wait." "FULL -4 as many as may be." */
    private static void twelveWait() {
        DriveTicks x = new DriveTicks();
        for (int k = 1; k <= 12; k++) {
            Check.same("wish " + k, x.wish(k % 3, k, k), k);
        }
        Check.same("the thirteenth", x.wish(0, 0, 0), DriveTicks.FULL);
        Check.same("again", x.wish(0, 0, 0), DriveTicks.FULL);
        Check.same("FULL counts", x.count(2), 2);
        Check.same("no BAD counts", x.count(0), 0);
        Check.same("twelve wait", x.count(4), 12);
        Drives.wishIs("the last one stays", x, 11, 0, 12, 12);
        Check.same("BAD ahead of FULL", x.wish(3, 0, 0), DriveTicks.BAD);
        // PERIOD 1 is the first to come, by the second STEP.
        x.steps(1);
        Check.same("none has come", x.wish(0, 0, 0), DriveTicks.FULL);
        x.steps(1);
        Check.same("room for one", x.wish(0, 900, 0), 12);
        Check.same("for one alone", x.wish(0, 900, 0), DriveTicks.FULL);
        Drives.wishIs("the first one now", x, 0, 2, 2, 2);
        Drives.wishIs("the new one is the last", x, 11, 0, 900, 0);
    }

    /** "WISHES of a LEG go: how many." */
    private static void unwishFromNoneToAll() {
        DriveTicks x = new DriveTicks();
        for (int l = 0; l < 3; l++) {
            Check.same("none waits", x.unwish(l), 0);
        }
        for (int k = 0; k < 12; k++) {
            x.wish(2, k, k);
        }
        Check.same("none of LEG 0", x.unwish(0), 0);
        Check.same("none of LEG 1", x.unwish(1), 0);
        Check.same("all of LEG 2", x.unwish(2), 12);
        Check.same("none is left", x.count(4), 0);
        Check.same("none to be told", x.wished(0, 0), -1);
        Drives.nothingRefused("unwish of none", x);
        for (int l : Drives.NO_LEGS) {
            Drives.bad("unwish(" + l + ")", x, x.count(0), x.unwish(l));
        }
        x.wish(0, 1, 1);
        x.wish(1, 2, 2);
        x.wish(2, 3, 3);
        Check.same("the one between", x.unwish(1), 1);
        Drives.wishIs("ahead of it", x, 0, 0, 1, 1);
        Drives.wishIs("behind it", x, 1, 2, 3, 3);
    }

    /** "Of WISH k, as they were made .. NONE: not so many. BAD: k below 0, too." */
    private static void wishedUpToTheLast() {
        DriveTicks x = new DriveTicks();
        for (int what = 0; what < 3; what++) {
            Check.same("none waits", x.wished(0, what), -1);
        }
        for (int k = 0; k < 12; k++) {
            x.wish(k % 3, 99 - k, k - 6);
        }
        for (int k = 0; k < 12; k++) {
            Drives.wishIs("as made " + k, x, k, k % 3, 99 - k, k - 6);
        }
        Check.same("behind the last", x.wished(12, 0), -1);
        Check.same("far behind the last", x.wished(Integer.MAX_VALUE, 2), -1);
        Drives.nothingRefused("not so many", x);
        Drives.bad("k below 0", x, x.count(0), x.wished(-1, 0));
        Drives.bad("k far below 0", x, x.count(0), x.wished(Integer.MIN_VALUE, 0));
        Drives.bad("what above", x, x.count(0), x.wished(0, 3));
        Drives.bad("what below", x, x.count(0), x.wished(0, -1));
        Drives.bad("what above, k behind the last", x, x.count(0), x.wished(12, 3));
    }

    // ---- steps

    /** "WISHES whose PERIOD has come (its number is that of STEPS done, 0 at first, or below)". */
    private static void periodsThatHaveCome() {
        DriveTicks x = new DriveTicks();
        x.steps(5);
        x.wish(0, 4, 44);
        x.wish(1, 5, 55);
        x.wish(2, 6, 66);
        x.steps(1);
        Check.same("one below came", x.state(0, 2), 44);
        Check.same("that of STEPS done came", x.state(1, 2), 55);
        Check.same("one above did not", x.state(2, 2), 0);
        Drives.wishIs("it waits", x, 0, 2, 6, 66);
        Check.same("alone", x.count(4), 1);
        x.steps(1);
        Check.same("it came", x.state(2, 2), 66);
        Check.same("none waits", x.count(4), 0);
    }

    /** "a PERIOD (0 .. 999)": the last one comes with the thousandth STEP, and STEPS go on. */
    private static void theLastPeriod() {
        DriveTicks x = new DriveTicks();
        x.wish(0, 998, 8);
        x.wish(1, 999, 9);
        for (int k = 0; k < 19; k++) {
            x.steps(50);
        }
        x.steps(48);
        Check.same("STEPS done", x.count(3), 998);
        Check.same("both wait", x.count(4), 2);
        x.steps(1);
        Check.same("998 came", x.state(0, 2), 8);
        Check.same("999 waits", x.state(1, 2), 0);
        x.steps(1);
        Check.same("999 came", x.state(1, 2), 9);
        Check.same("a thousand", x.count(3), 1000);
        x.wish(2, 999, 7);
        x.steps(1);
        Check.same("999 is below", x.state(2, 2), 7);
    }

    /** "come to WANT of CURRENTS (w, 0 at first), in the order in which they were made, and go". */
    private static void inTheOrderAsMade() {
        DriveTicks x = new DriveTicks();
        x.steps(3);
        x.wish(0, 3, 1);
        x.wish(0, 0, 2);
        x.wish(0, 2, 3);
        x.wish(0, 4, 4);
        x.wish(0, 1, 5);
        x.steps(1);
        Check.same("the last one made of those that came", x.state(0, 2), 5);
        Check.same("the others have gone, too", x.count(4), 1);
        x.steps(1);
        Check.same("then the one that waited", x.state(0, 2), 4);
        x.steps(1);
        Check.same("WANT stays", x.state(0, 2), 4);
    }

    /** "then, STEERING on (not at first)": off, WANT comes, SUM and DEMAND stay. */
    private static void wantsWithoutSteering() {
        DriveTicks x = Drives.demanding(3, 3, 3);
        x.wish(0, 0, 500);
        x.steps(2);
        Drives.stateIs("not STEERING", x, 0, 0, 3, 500, 0);
        x.sets(6, 1);
        x.steps(1);
        // e 500: 250 by P, SUM 500: 31 by Q.
        Check.same("STEERING: SUM", x.state(0, 3), 500);
        Check.same("STEERING: DEMAND", x.state(0, 1), 200);
        x.sets(6, 0);
        x.steps(1);
        Check.same("off again: SUM stays", x.state(0, 3), 500);
        Check.same("off again: DEMAND stays", x.state(0, 1), 200);
    }

    /** "n (1 .. 50) STEPS". */
    private static void stepsFromOneToFifty() {
        DriveTicks x = new DriveTicks();
        Check.same("none done at first", x.count(3), 0);
        x.steps(1);
        Check.same("one", x.count(3), 1);
        x.steps(50);
        Check.same("fifty more", x.count(3), 51);
        for (int n : new int[] {0, -1, 51, Integer.MIN_VALUE, Integer.MAX_VALUE}) {
            Drives.bad("steps(" + n + ")", x, x.count(0), x.steps(n));
            Check.same("no STEP by " + n, x.count(3), 51);
        }
    }

    /** "how many of them were OVER": none, one, all; by THE PLAN with the DEMANDS that the STEP makes. */
    private static void stepsThatWereOver() {
        DriveTicks x = Drives.demanding(24, -24, 0);
        Check.same("SPREAD N: none", x.steps(50), 0);
        x.leg(0, 0, 25);
        Check.same("SPREAD N and 1: all", x.steps(50), 50);
        // P 20, Q 0: WANT 40 asks for 50, which is OVER; 0 is wanted again with the next STEP.
        DriveTicks y = new DriveTicks();
        y.sets(4, 20);
        y.sets(5, 0);
        y.sets(6, 1);
        y.wish(0, 2, 40);
        y.wish(0, 3, 0);
        Check.same("one of five", y.steps(5), 1);
        for (int k = 0; k < 5; k++) {
            Check.same("which of them: " + k + " back", y.memory(k, 3), k == 2 ? 1 : 0);
        }
        // 38 asks for 47, 39 for 48: N, and not above it.
        DriveTicks z = new DriveTicks();
        z.sets(4, 20);
        z.sets(5, 0);
        z.sets(6, 1);
        z.wish(0, 0, 39);
        Check.same("DEMAND N", z.steps(1), 0);
        Check.same("it is N", z.plan(0), 48);
    }

    // ---- sums

    /** "its SUM s is more by e, unless THE PLAN .. was OVER and e and s have one sign (both above 0 or both below)". */
    private static void sumsHeldBackByOneSignAlone() {
        // Rows: SUM, e, SUM then if OVER.
        int[][] rows = {{100, 50, 100}, {-100, -50, -100}, {100, -50, 50}, {-100, 50, -50}, {100, -150, -50},
            {0, 50, 50}, {0, -50, -50}, {0, 0, 0}, {100, 0, 100}, {1, 1, 1}, {-1, -1, -1}, {1, -1, 0}, {-1, 1, 0},
            {0, 1, 1}, {0, -1, -1}, {1, 2, 1}, {2, 1, 2}, {-1, -2, -1}, {-2, -1, -2}};
        for (int[] row : rows) {
            for (int l = 0; l < 3; l++) {
                String what = "SUM " + row[0] + ", e " + row[1] + ", LEG " + l;
                Check.same(what + ", OVER", sumThen(l, row[0], row[1], 25), row[2]);
                Check.same(what + ", not OVER", sumThen(l, row[0], row[1], 24), row[0] + row[1]);
            }
        }
    }

    private static int sumThen(int l, int sum, int e, int demandOfLegZero) {
        DriveTicks x = summing();
        x.wish(l, 0, sum);
        x.wish(l, 1, e);
        x.steps(1);
        Check.same("SUM ahead", x.state(l, 3), sum);
        Check.same("CURRENT ahead", x.state(l, 0), 0);
        Drives.demand(x, demandOfLegZero, -24, 0);
        x.steps(1);
        return x.state(l, 3);
    }

    /** "unless THE PLAN .. was OVER": SPREAD above N, whichever LEGS have it. */
    private static void sumsHeldBackAboveNAlone() {
        int[][] held = {{49, 0, 0}, {0, 49, 0}, {0, 0, 49}, {-49, 0, 0}, {-200, -200, -151}, {200, 151, 200}};
        int[][] grows = {{48, 0, 0}, {0, -48, 0}, {0, 0, 48}, {200, 200, 200}, {-200, -200, -152}, {200, 152, 200}};
        for (int[] u : held) {
            Check.same("held back by " + u[0] + " " + u[1] + " " + u[2], sumByDemands(u), 10);
        }
        for (int[] u : grows) {
            Check.same("grows by " + u[0] + " " + u[1] + " " + u[2], sumByDemands(u), 20);
        }
    }

    private static int sumByDemands(int[] u) {
        DriveTicks x = summing();
        x.wish(1, 0, 10);
        x.steps(1);
        Drives.demand(x, u[0], u[1], u[2]);
        x.steps(1);
        return x.state(1, 3);
    }

    /** "with all DEMANDS as ahead of the STEP": not as LEGS ahead have them already. */
    private static void sumsByDemandsAheadOfTheStep() {
        DriveTicks x = summing();
        x.wish(2, 0, 10);
        x.wish(0, 1, 200);
        x.wish(1, 1, -200);
        x.steps(1);
        x.sets(4, 20);
        Check.same("OVER by the new DEMANDS", x.steps(1), 1);
        Check.same("not OVER ahead: SUM grows", x.state(2, 3), 20);
        DriveTicks y = summing();
        y.wish(2, 0, 10);
        y.steps(1);
        Drives.demand(y, 200, -200, 0);
        Check.same("not OVER by the new DEMANDS", y.steps(1), 0);
        Check.same("OVER ahead: SUM is held back", y.state(2, 3), 10);
    }

    /** "-5000 at least, 5000 at most". */
    private static void sumsAtBothEnds() {
        DriveTicks x = summing();
        x.wish(0, 0, 500);
        x.wish(1, 0, -500);
        x.wish(2, 0, 499);
        x.wish(0, 11, -1);
        x.wish(1, 11, 1);
        x.steps(9);
        sumsAre("nine", x, 4500, -4500, 4491);
        x.steps(1);
        sumsAre("ten", x, 5000, -5000, 4990);
        x.steps(1);
        sumsAre("eleven", x, 5000, -5000, 5000);
        x.steps(1);
        sumsAre("one back", x, 4999, -4999, 5000);
        x.wish(0, 0, 1);
        x.wish(1, 0, -1);
        x.steps(1);
        sumsAre("up to the end", x, 5000, -5000, 5000);
        x.steps(1);
        sumsAre("no farther", x, 5000, -5000, 5000);
    }

    private static void sumsAre(String what, DriveTicks x, int a, int b, int c) {
        Check.same("SUM 0, " + what, x.state(0, 3), a);
        Check.same("SUM 1, " + what, x.state(1, 3), b);
        Check.same("SUM 2, " + what, x.state(2, 3), c);
    }

    // ---- demands

    /** "(P, Q 0 .. 20; 8, 4 at first)". */
    private static void parts() {
        DriveTicks x = new DriveTicks();
        Check.same("P at first", x.sets(4, 0), 8);
        Check.same("P least", x.sets(4, 20), 0);
        Check.same("Q at first", x.sets(5, 0), 4);
        Check.same("Q least", x.sets(5, 20), 0);
        for (int v : new int[] {-1, 21, Integer.MIN_VALUE, Integer.MAX_VALUE}) {
            Drives.bad("P " + v, x, x.count(0), x.sets(4, v));
            Drives.bad("Q " + v, x, x.count(0), x.sets(5, v));
        }
        Check.same("P most", x.count(9), 20);
        Check.same("Q most", x.count(10), 20);
        // e and SUM 64: 32 by P 8, 4 by Q 4.
        Check.same("P and Q at first", demandOf(8, 4, 64, 0), 36);
        Check.same("P and Q none", demandOf(0, 0, 500, 0), 0);
        Check.same("P and Q most", demandOf(20, 20, 64, 0), 100);
    }

    private static int demandOf(int p, int q, int w, int current) {
        DriveTicks x = new DriveTicks();
        x.sets(4, p);
        x.sets(5, q);
        x.sets(6, 1);
        x.leg(1, 1, current);
        x.wish(1, 0, w);
        x.steps(1);
        Check.same("SUM is e at first", x.state(1, 3), w - current);
        return x.state(1, 1);
    }

    /** "DEMAND: e times P by 16, and s times Q by 64", each cut towards 0. */
    private static void demandsAreCutEach() {
        int[][] rows = {{1, 0, 15, 0}, {1, 0, 16, 1}, {1, 0, 31, 1}, {1, 0, 32, 2}, {1, 0, -15, 0}, {1, 0, -16, -1},
            {1, 0, -31, -1}, {1, 0, -32, -2}, {0, 1, 63, 0}, {0, 1, 64, 1}, {0, 1, 127, 1}, {0, 1, 128, 2},
            {0, 1, -63, 0}, {0, 1, -64, -1}, {0, 1, -127, -1}, {0, 1, -128, -2}, {8, 4, -25, -13}, {8, 4, 25, 13},
            {1, 1, 63, 3}, {1, 1, -63, -3}, {8, 4, 0, 0}};
        for (int[] row : rows) {
            Check.same("P " + row[0] + ", Q " + row[1] + ", e " + row[2],
                demandOf(row[0], row[1], row[2], 0), row[3]);
        }
        Check.same("e: w less i", demandOf(16, 0, 20, 7), 13);
        Check.same("e: w less i below 0", demandOf(16, 0, -20, 7), -27);
    }

    /** "-200 at least, 200 at most", by P. */
    private static void demandsAtBothEndsByP() {
        int[][] rows = {{159, 0, 198}, {160, 0, 200}, {161, 0, 200}, {500, -999, 200}};
        for (int[] row : rows) {
            Check.same("P 20, w " + row[0], demandOf(20, 0, row[0], row[1]), row[2]);
            Check.same("P 20, w " + -row[0], demandOf(20, 0, -row[0], -row[1]), -row[2]);
        }
        Check.same("P 16, 199", demandOf(16, 0, 199, 0), 199);
        Check.same("P 16, 200", demandOf(16, 0, 200, 0), 200);
        Check.same("P 16, 201", demandOf(16, 0, 201, 0), 200);
        Check.same("P 16, -201", demandOf(16, 0, -201, 0), -200);
    }

    /** "-200 at least, 200 at most", by Q and by both. */
    private static void demandsAtBothEndsByQ() {
        // 637 * 20 / 64 = 199.06, 640 * 20 / 64 = 200, 645 * 20 / 64 = 201.56.
        int[][] rows = {{500, -137, 199}, {500, -140, 200}, {500, -145, 200}};
        for (int[] row : rows) {
            Check.same("Q 20, i " + row[1], demandOf(0, 20, row[0], row[1]), row[2]);
            Check.same("Q 20, i " + -row[1], demandOf(0, 20, -row[0], -row[1]), -row[2]);
        }
        // 160 by P 16 and 40 by Q 16, 164 and 41.
        Check.same("both 200", demandOf(16, 16, 160, 0), 200);
        Check.same("both above", demandOf(16, 16, 164, 0), 200);
        Check.same("both -200", demandOf(16, 16, -160, 0), -200);
        Check.same("both below", demandOf(16, 16, -164, 0), -200);
        Check.same("both 198", demandOf(16, 16, 159, 0), 198);
    }

    // ---- currents

    /** "and then an eighth of it less (i less i by 8)", cut towards 0. */
    private static void anEighthIsCut() {
        int[][] rows = {{0, 0}, {1, 1}, {7, 7}, {8, 7}, {9, 8}, {15, 14}, {16, 14}, {100, 88}, {999, 875}};
        for (int[] row : rows) {
            DriveTicks x = Drives.withCurrents(new DriveTicks(), row[0], -row[0], 0);
            x.sets(1, 0);
            x.steps(1);
            Check.same("an eighth less than " + row[0], x.state(0, 0), row[1]);
            Check.same("an eighth less than " + -row[0], x.state(1, 0), -row[1]);
            Check.same("of nothing", x.state(2, 0), 0);
        }
    }

    /** "of each LEG 3 times MEAN less all three MEANS, by 6, more", cut towards 0. */
    private static void aSixthIsCut() {
        // DEAD 0, MEAN is HIGH; by DEMAND 1 .. 6 LEG 0 gets 2, 4, 6, 8, 10, 12 by 6, the others half of it less.
        int[][] rows = {{1, 0, 0}, {2, 0, 0}, {3, 1, 0}, {4, 1, 0}, {5, 1, 0}, {6, 2, -1}, {-6, -2, 1}, {-4, -1, 0}};
        for (int[] row : rows) {
            DriveTicks x = Drives.demanding(row[0], 0, 0);
            x.sets(1, 0);
            x.steps(1);
            Check.same("DEMAND " + row[0] + ": LEG 0", x.state(0, 0), row[1]);
            Check.same("DEMAND " + row[0] + ": LEG 1", x.state(1, 0), row[2]);
            Check.same("DEMAND " + row[0] + ": LEG 2", x.state(2, 0), row[2]);
        }
    }

    /** "-999 at least, 999 at most": as an eighth goes, 999 and the most that comes is 1031, less 128. */
    private static void currentsAtBothEnds() {
        DriveTicks x = Drives.withCurrents(Drives.demanding(200, -200, -200), 999, -999, 999);
        x.sets(0, 96);
        x.steps(1);
        Check.same("the most comes to 999", x.state(0, 0), 903);
        Check.same("half of it below -999", x.state(1, 0), -889);
        Check.same("half of it less than 999", x.state(2, 0), 861);
        DriveTicks y = Drives.withCurrents(Drives.demanding(200, 200, -200), 0, 0, -999);
        y.sets(0, 96);
        y.steps(1);
        Check.same("the most goes below -999", y.state(2, 0), -903);
        Check.same("half of it", y.state(0, 0), 14);
    }

    /** "(MEANS by the CURRENTS ahead)": LEG 0's CURRENT goes from below 0 to above, LEG 1 has MEANS as they were. */
    private static void meansByTheCurrentsAhead() {
        // HIGH 27, 21, 21, d 5: MEANS 48 - 16 = 32, 16, 16: 32 / 6 = 5 and -16 / 6 = -2.
        DriveTicks x = Drives.withCurrents(Drives.demanding(6, 0, 0), -1, 0, 0);
        x.sets(1, 5);
        x.sets(2, 0);
        x.steps(1);
        Check.same("LEG 0", x.state(0, 0), 4);
        Check.same("LEG 1", x.state(1, 0), -2);
        Check.same("LEG 2", x.state(2, 0), -2);
    }

    // ---- settles

    /** "How many STEPS (0 .. 60) it would take": none. */
    private static void settlesAtOnce() {
        DriveTicks x = new DriveTicks();
        Check.same("all is 0", x.settles(0), 0);
        Drives.withCurrents(x, 999, -999, 0);
        x.sets(1, 0);
        // 999, 875, 766, 671, 588, 515, 451.
        Check.same("far away", x.settles(500), 6);
    }

    /** "no farther from its WANT .. than m (0 .. 500)", to both sides, of each LEG. */
    private static void settlesAtItsDistance() {
        for (int l = 0; l < 3; l++) {
            for (int way = -1; way <= 1; way += 2) {
                DriveTicks x = new DriveTicks();
                x.sets(1, 0);
                x.leg(l, 1, way * 100);
                // An eighth less each STEP: 88, 77, 68.
                Check.same("as far as m", x.settles(100), 0);
                Check.same("one farther", x.settles(99), 1);
                Check.same("as far as m then", x.settles(88), 1);
                Check.same("one farther then", x.settles(87), 2);
                Check.same("7 is as near as it gets", x.settles(7), 24);
                Check.same("NONE", x.settles(6), -1);
            }
        }
    }

    /** "NONE: more than 60." */
    private static void settlesUpToSixty() {
        DriveTicks x = new DriveTicks();
        x.wish(0, 58, 0);
        Check.same("fifty-nine", x.settles(0), 59);
        x.wish(0, 59, 0);
        Check.same("sixty", x.settles(0), 60);
        x.wish(0, 60, 0);
        Check.same("sixty-one", x.settles(0), -1);
        x.steps(1);
        Check.same("sixty from there on", x.settles(0), 60);
        Drives.nothingRefused("NONE", x);
    }

    /** "(as it is by then)", "no WISHES waiting". */
    private static void settlesWithWishesThatWait() {
        DriveTicks x = new DriveTicks();
        x.wish(1, 0, 0);
        Check.same("one that has come, but waits", x.settles(500), 1);
        DriveTicks y = new DriveTicks();
        y.wish(1, 3, 50);
        Check.same("WANT by then, as far as m", y.settles(50), 4);
        Check.same("WANT by then, one farther", y.settles(49), -1);
        y.wish(1, 9, 49);
        Check.same("WANT by then, a later one", y.settles(49), 10);
    }

    /** "as all is", "All stays." */
    private static void settlesAsAllIs() {
        DriveTicks x = new DriveTicks();
        x.wish(0, 0, 50);
        x.steps(1);
        Check.same("WANT as it is", x.settles(49), -1);
        Check.same("WANT as it is, as far as m", x.settles(50), 0);
        // DEAD 0, DEMANDS (6, 0, 0): LEG 0 has 2, 4, 6, 7, 8, the others -1, -2, -3, -4, -5.
        DriveTicks y = Drives.demanding(6, 0, 0);
        y.sets(1, 0);
        y.wish(0, 0, 14);
        Check.same("DEMANDS as they are", y.settles(7), 4);
        Check.same("DEMANDS as they are, one nearer", y.settles(6), 5);
        long before = y.digest();
        y.settles(6);
        y.tunes(6);
        Check.same("all stays", y.digest(), before);
        Check.same("MEMORY stays", y.memory(0, 0), -1000);
        Check.same("once more", y.settles(6), 5);
        y.sets(0, 12);
        y.settles(3);
        Check.same("N stays", y.count(5), 12);
    }

    /** "as all is": what was tried ahead is gone, the WISHES that still waited there, too. */
    private static void settlesKeepsNothing() {
        DriveTicks x = new DriveTicks();
        for (int k = 0; k < 12; k++) {
            x.wish(k % 3, 900 + k, 400);
        }
        Check.same("twelve wait for long", x.settles(0), -1);
        Check.same("by each P", x.tunes(0), -1);
        x.unwish(0);
        x.unwish(1);
        Check.same("four wait for long", x.settles(0), -1);
        x.unwish(2);
        Check.same("none waits", x.settles(0), 0);
        Check.same("none waits, tunes", x.tunes(0), 0);
        x.wish(0, 5, 0);
        Check.same("one waits", x.settles(0), 6);
    }

    /** "than m (0 .. 500)": BAD. */
    private static void settlesRefuses() {
        DriveTicks x = new DriveTicks();
        x.leg(0, 1, 500);
        Check.same("m most", x.settles(500), 0);
        for (int m : new int[] {-1, 501, Integer.MIN_VALUE, Integer.MAX_VALUE}) {
            Drives.bad("settles(" + m + ")", x, x.count(0), x.settles(m));
        }
    }

    // ---- tunes

    private static DriveTicks steeringTo(int q, int a, int b, int c) {
        DriveTicks x = new DriveTicks();
        x.sets(5, q);
        x.sets(6, 1);
        x.wish(0, 0, a);
        x.wish(1, 0, b);
        x.wish(2, 0, c);
        return x;
    }

    /** "P (0 .. 20; Q as it is) by which settles(m) is least, NONE being more than all". */
    private static void tunesNoneIsMoreThanAll() {
        // By P 0 .. 19 NONE, by 20 four STEPS.
        DriveTicks x = steeringTo(0, 40, -25, -15);
        Check.same("the most P alone", x.tunes(8), 20);
        x.sets(4, 20);
        Check.same("by it four", x.settles(8), 4);
        x.sets(4, 19);
        Check.same("by 19 NONE", x.settles(8), -1);
        Check.same("P as it is does not matter", x.tunes(8), 20);
        // By P 0 twenty STEPS, by more of them more, by the most NONE.
        DriveTicks y = steeringTo(2, 60, -30, -30);
        Check.same("the least P", y.tunes(2), 0);
        y.sets(4, 11);
        Check.same("by 11 NONE", y.settles(2), -1);
    }

    /** "of like ones the least". */
    private static void tunesTheLeastOfLikeOnes() {
        // 7, 6, 6 by P 18, 19, 20.
        Check.same("19 and 20", steeringTo(0, 60, -30, -30).tunes(12), 19);
        // Five by each.
        Check.same("all of them", steeringTo(20, 60, -30, -30).tunes(8), 0);
        // 6 by P 4, 6, 7 as by 2 and 3.
        Check.same("2 and more", steeringTo(10, 60, -30, -30).tunes(4), 2);
        Check.same("settled at once", new DriveTicks().tunes(0), 0);
    }

    /** "NONE: by none." */
    private static void tunesByNone() {
        DriveTicks x = steeringTo(0, 40, -25, -15);
        Check.same("by none", x.tunes(6), -1);
        Drives.nothingRefused("by none", x);
        Check.same("P stays", x.count(9), 8);
        DriveTicks y = new DriveTicks();
        y.wish(0, 59, 0);
        Check.same("sixty", y.tunes(0), 0);
        y.wish(0, 60, 0);
        Check.same("sixty-one", y.tunes(0), -1);
    }

    private static void tunesRefuses() {
        DriveTicks x = new DriveTicks();
        x.leg(0, 1, 500);
        Check.same("m most", x.tunes(500), 0);
        for (int m : new int[] {-1, 501, Integer.MIN_VALUE, Integer.MAX_VALUE}) {
            Drives.bad("tunes(" + m + ")", x, x.count(0), x.tunes(m));
        }
    }

    // ---- memory

    /** "-1000: not so many. BAD: k below 0, too." */
    private static void memoryOfNone() {
        DriveTicks x = new DriveTicks();
        for (int what = 0; what < 4; what++) {
            Check.same("none", x.memory(0, what), -1000);
            Check.same("none by far", x.memory(Integer.MAX_VALUE, what), -1000);
        }
        Drives.nothingRefused("not so many", x);
        Drives.bad("k below 0", x, x.count(0), x.memory(-1, 0));
        Drives.bad("k far below 0", x, x.count(0), x.memory(Integer.MIN_VALUE, 3));
        Drives.bad("what above", x, x.count(0), x.memory(0, 4));
        Drives.bad("what below", x, x.count(0), x.memory(0, -1));
        x.steps(1);
        Check.same("one", x.memory(0, 0), 0);
        Check.same("not two", x.memory(1, 0), -1000);
    }

    /** "MEMORY: of the last 10 STEPS CURRENTS behind them, and whether they were OVER." */
    private static void memoryOfTen() {
        DriveTicks x = new DriveTicks();
        x.sets(1, 0);
        for (int k = 1; k <= 12; k++) {
            // Each STEP leaves 7 of 8.
            Drives.withCurrents(x, 8 * k, -8 * k, 0);
            x.steps(1);
            int held = Math.min(k, 10);
            for (int back = 0; back < held; back++) {
                Check.same(k + " STEPS, " + back + " back, LEG 0", x.memory(back, 0), 7 * (k - back));
                Check.same(k + " STEPS, " + back + " back, LEG 1", x.memory(back, 1), -7 * (k - back));
            }
            Check.same(k + " STEPS, behind the last", x.memory(held, 0), -1000);
        }
    }

    /** "CURRENTS behind them": as the STEP left them, whatever is told later. */
    private static void memoryIsOfCurrentsBehind() {
        DriveTicks x = Drives.withCurrents(new DriveTicks(), 80, 16, -8);
        x.sets(1, 0);
        x.steps(1);
        Drives.withCurrents(x, 1, 2, 3);
        x.leg(0, 0, 200);
        Check.same("LEG 0", x.memory(0, 0), 70);
        Check.same("LEG 1", x.memory(0, 1), 14);
        Check.same("LEG 2", x.memory(0, 2), -7);
        Check.same("not OVER", x.memory(0, 3), 0);
        x.steps(1);
        x.leg(0, 0, 0);
        Check.same("OVER", x.memory(0, 3), 1);
    }

    /** "-1000: it is empty." */
    private static void overOfNone() {
        DriveTicks x = new DriveTicks();
        for (int l = 0; l < 3; l++) {
            for (int what = 0; what < 3; what++) {
                Check.same("empty", x.over(l, what), -1000);
            }
        }
        Drives.nothingRefused("empty", x);
        Drives.bad("what above", x, x.count(0), x.over(0, 3));
        Drives.bad("what below", x, x.count(0), x.over(0, -1));
        for (int l : Drives.NO_LEGS) {
            for (int what = 0; what < 3; what++) {
                Drives.bad("over(" + l + ", " + what + ")", x, x.count(0), x.over(l, what));
            }
        }
    }

    /** "Over MEMORY: the greatest CURRENT of a LEG (what 0), the least (1), how many were OVER". */
    private static void overOfTen() {
        DriveTicks x = Drives.withCurrents(new DriveTicks(), 800, -800, 0);
        x.sets(1, 0);
        x.leg(2, 0, 49);
        Check.same("OVER", x.steps(1), 1);
        Drives.demand(x, 0, 0, 0);
        // OVER: 49 * 48 / 49 = 48: HIGH 0, 0, 48: -48 / 6 = -8 for LEGS 0 and 1, 16 for LEG 2.
        Check.same("one is the greatest", x.over(0, 0), 693);
        Check.same("and the least", x.over(0, 1), 693);
        Check.same("below 0", x.over(1, 1), -707);
        Check.same("of LEG 2", x.over(2, 0), 14);
        Drives.withCurrents(x, 0, 0, 0);
        x.steps(9);
        Check.same("the greatest is nine back", x.over(0, 0), 693);
        Check.same("the least is nine back", x.over(1, 1), -707);
        Check.same("the least of the others", x.over(0, 1), 0);
        for (int l = 0; l < 3; l++) {
            Check.same("OVER nine back, of whatever LEG", x.over(l, 2), 1);
        }
        x.steps(1);
        Check.same("the greatest has gone", x.over(0, 0), 0);
        Check.same("the least has gone", x.over(1, 1), 0);
        Check.same("OVER has gone", x.over(0, 2), 0);
        x.leg(0, 0, 200);
        x.steps(11);
        Check.same("all ten OVER", x.over(2, 2), 10);
    }

    /** "Over MEMORY": the greatest and the least one, and the OVER one, at each of its ten places. */
    private static void overWhereverItWas() {
        for (int place = 0; place < 10; place++) {
            DriveTicks x = new DriveTicks();
            x.sets(1, 0);
            for (int k = 0; k < 10; k++) {
                boolean here = k == place;
                Drives.withCurrents(x, here ? 80 : 8, here ? -80 : -8, here ? 8 : 80);
                x.steps(1);
            }
            Check.same("greatest at " + place, x.over(0, 0), 70);
            Check.same("least beside it", x.over(0, 1), 7);
            Check.same("least at " + place, x.over(1, 1), -70);
            Check.same("greatest beside it", x.over(1, 0), -7);
            Check.same("least above 0 at " + place, x.over(2, 1), 7);
            Check.same("none OVER", x.over(place % 3, 2), 0);
            x.leg(0, 0, 49);
            x.steps(1);
            x.leg(0, 0, 0);
            if (place > 0) {
                x.steps(place);
            }
            Check.same("one OVER, " + place + " back", x.over(place % 3, 2), 1);
        }
    }

    // ---- counts

    /** "All is as at first (but how often was refused, THE TEXT): STEPS that were done." */
    private static void anewKeepsRefusalsAndText() {
        DriveTicks x = new DriveTicks();
        Check.same("none done", x.anew(), 0);
        x.draw(12);
        for (int what = 0; what < 7; what++) {
            x.sets(what, what == 0 ? 12 : 1);
        }
        x.sets(2, 0);
        Drives.type(x, "w-7;");
        x.reads();
        x.wish(0, 999, 3);
        x.steps(3);
        x.draw(-1);
        x.steps(0);
        for (int k = 0; k < 12; k++) {
            x.wish(1, 900, 1);
        }
        Drives.demand(x, 1, 2, 3);
        Check.same("three done", x.anew(), 3);
        int[] due = {2, 0, 1, 0, 0, 48, 2, 1, 4, 8, 4, 0, 4};
        for (int what = 0; what < 13; what++) {
            Check.same("anew count(" + what + ")", x.count(what), due[what]);
        }
        for (int l = 0; l < 3; l++) {
            Drives.stateIs("anew", x, l, 0, 0, 0, 0);
            Check.same("anew HIGH", x.of(l, 0), 24);
        }
        Check.same("MEMORY is empty", x.memory(0, 0), -1000);
        Check.same("MEMORY is empty, over", x.over(0, 2), -1000);
        Check.same("no WISH waits", x.wished(0, 0), -1);
        Check.same("THE TEXT is read as ever", x.reads(), 1);
        Drives.wishIs("by STEPS done, none", x, 0, 2, 0, -7);
        x.steps(1);
        Check.same("WISHES come as ever", x.state(2, 2), -7);
        Check.same("one done", x.anew(), 1);
    }

    /** "How often refused: BAD (0), NO (1), FULL (2) .. BAD." */
    private static void countRefusesWhatItDoesNotHave() {
        DriveTicks x = new DriveTicks();
        int before = 0;
        for (int what : new int[] {-1, 13, Integer.MIN_VALUE, Integer.MAX_VALUE}) {
            Drives.bad("count(" + what + ")", x, before, x.count(what));
            before++;
        }
        Check.same("NO, told by none", x.count(1), 0);
        Check.same("FULL", x.count(2), 0);
    }

    /** "h = 31 h + v for each v", in the order that is told; h goes round. */
    private static void digestGoesRound() {
        DriveTicks x = new DriveTicks();
        Check.same("at first", x.digest(), -784395734625270791L);
        Check.same("and again", x.digest(), -784395734625270791L);
        x.sets(6, 1);
        x.wish(0, 0, 40);
        x.wish(1, 0, -25);
        x.wish(2, 0, -15);
        x.wish(0, 7, -500);
        x.wish(2, 999, 500);
        x.type('u');
        x.steps(0);
        x.steps(3);
        Drives.stateIs("LEG 0", x, 0, 21, 17, 40, 95);
        Drives.stateIs("LEG 1", x, 1, -14, -10, -25, -59);
        Drives.stateIs("LEG 2", x, 2, -8, -6, -15, -36);
        Check.same("three STEPS on, two WISHES", x.digest(), -7670422238840349706L);
    }
}
