/** Promises 18 to 31 with numbers told by hand from the document: ordinary inputs, edges, wrong inputs. */
public final class StepPromisesTest {
    public static void main(String[] args) {
        promise18Wish();
        promise19Unwish();
        promise20Wished();
        promise21Steps();
        promise21Wishes();
        promise21Steering();
        promise21SumsHeldBack();
        promise21Limits();
        promise22Settles();
        promise22Edges();
        promise23Tunes();
        promise24State();
        promise25Memory();
        promise26Over();
        promise27Type();
        promise28Clear();
        promise29Reads();
        promise29Faults();
        promise29Full();
        promise29Period();
        promise30Count();
        promise31Digest();
        Check.finish("StepPromisesTest");
    }

    private static void promise18Wish() {
        DriveTicks x = new DriveTicks();
        Check.same("18 least", x.wish(0, 0, -500), 1);
        Check.same("18 most", x.wish(2, 999, 500), 2);
        for (int l : Drives.NO_LEGS) {
            Drives.bad("18 leg " + l, x, x.count(0), x.wish(l, 0, 0));
        }
        Drives.bad("18 period below", x, x.count(0), x.wish(0, -1, 0));
        Drives.bad("18 period above", x, x.count(0), x.wish(0, 1000, 0));
        Drives.bad("18 w below", x, x.count(0), x.wish(0, 0, -501));
        Drives.bad("18 w above", x, x.count(0), x.wish(0, 0, 501));
        for (int k = 3; k <= 12; k++) {
            Check.same("18 wish " + k, x.wish(1, k, k), k);
        }
        Check.same("18 full", x.wish(1, 1, 1), DriveTicks.FULL);
        Check.same("18 full counts", x.count(2), 1);
        Check.same("18 full waits", x.count(4), 12);
        Drives.bad("18 BAD ahead of FULL", x, x.count(0), x.wish(1, 1000, 1));
        Check.same("18 BAD is not FULL", x.count(2), 1);
    }

    private static void promise19Unwish() {
        DriveTicks x = new DriveTicks();
        x.wish(0, 1, 10);
        x.wish(1, 2, 20);
        x.wish(0, 3, 30);
        x.wish(2, 4, 40);
        Check.same("19 two go", x.unwish(0), 2);
        Check.same("19 two wait", x.count(4), 2);
        Drives.wishIs("19 first", x, 0, 1, 2, 20);
        Drives.wishIs("19 second", x, 1, 2, 4, 40);
        Check.same("19 none goes", x.unwish(0), 0);
        for (int l : Drives.NO_LEGS) {
            Drives.bad("19 leg " + l, x, x.count(0), x.unwish(l));
        }
        Check.same("19 room again", x.wish(0, 9, 9), 3);
    }

    private static void promise20Wished() {
        DriveTicks x = new DriveTicks();
        x.wish(2, 7, -3);
        x.wish(1, 5, 4);
        Drives.wishIs("20 as made, not by PERIOD", x, 0, 2, 7, -3);
        Drives.wishIs("20 second", x, 1, 1, 5, 4);
        Check.same("20 not so many", x.wished(2, 0), -1);
        Check.same("20 not so many by far", x.wished(Integer.MAX_VALUE, 0), -1);
        Drives.bad("20 k below", x, x.count(0), x.wished(-1, 0));
        Drives.bad("20 what above", x, x.count(0), x.wished(0, 3));
        Drives.bad("20 what below", x, x.count(0), x.wished(0, -1));
        Drives.bad("20 what above with k above", x, x.count(0), x.wished(99, 3));
    }

    private static void promise21Steps() {
        // Not STEERING: MEANS are 39, 14, 4; 117 - 57 = 60, by 6 = 10; less 10 / 8 = 1: 9; -15 / 6 = -2; -45 / 6 = -7.
        DriveTicks x = new DriveTicks();
        x.leg(0, 0, 20);
        x.leg(1, 0, -5);
        x.leg(2, 0, -15);
        x.wish(0, 0, 77);
        Check.same("21 not OVER", x.steps(1), 0);
        Drives.stateIs("21 leg 0", x, 0, 9, 20, 77, 0);
        Drives.stateIs("21 leg 1", x, 1, -2, -5, 0, 0);
        Drives.stateIs("21 leg 2", x, 2, -7, -15, 0, 0);
        Check.same("21 STEPS done", x.count(3), 1);
        Check.same("21 many", x.steps(50), 0);
        Check.same("21 many done", x.count(3), 51);
        Drives.bad("21 none", x, x.count(0), x.steps(0));
        Drives.bad("21 below", x, x.count(0), x.steps(-1));
        Drives.bad("21 above", x, x.count(0), x.steps(51));
        Check.same("21 as many done", x.count(3), 51);
        x.leg(0, 0, 200);
        Check.same("21 all OVER", x.steps(5), 5);
    }

    private static void promise21Wishes() {
        DriveTicks x = new DriveTicks();
        x.wish(0, 1, 100);
        x.wish(0, 0, 50);
        x.wish(1, 0, 7);
        x.wish(1, 0, 8);
        x.wish(2, 2, 9);
        x.steps(1);
        Check.same("21 PERIOD 0 came", x.state(0, 2), 50);
        Check.same("21 the later made counts", x.state(1, 2), 8);
        Check.same("21 two wait", x.count(4), 2);
        Drives.wishIs("21 first waits", x, 0, 0, 1, 100);
        Drives.wishIs("21 last waits", x, 1, 2, 2, 9);
        x.steps(1);
        Check.same("21 PERIOD 1 came", x.state(0, 2), 100);
        Check.same("21 PERIOD 2 not yet", x.state(2, 2), 0);
        x.wish(2, 0, -9);
        x.steps(1);
        Check.same("21 one below came behind PERIOD 2", x.state(2, 2), -9);
        Check.same("21 none waits", x.count(4), 0);
    }

    private static void promise21Steering() {
        DriveTicks x = new DriveTicks();
        x.sets(6, 1);
        x.wish(0, 0, 50);
        x.wish(1, 0, -25);
        x.wish(2, 0, -25);
        // e 50: 50 * 8 / 16 = 25, SUM 50 * 4 / 64 = 3: 28. e -25: -12 and -1 (each cut): -13. SPREAD 41.
        Check.same("21 not OVER", x.steps(1), 0);
        // m 15; HIGH 44, 3, 3 (cut); MEANS 42, 1, 1: 126 - 44 = 82 / 6 = 13, less 1: 12; 3 - 44 = -41 / 6 = -6.
        Drives.stateIs("21 leg 0", x, 0, 12, 28, 50, 50);
        Drives.stateIs("21 leg 1", x, 1, -6, -13, -25, -25);
        Drives.stateIs("21 leg 2", x, 2, -6, -13, -25, -25);
        // e 38: 19, SUM 88: 352 / 64 = 5: 24. e -19: -9, SUM -44: -2: -11. SPREAD 35, m 13.
        // HIGH 41 and 2, 6 less 2; MEANS 41, 6, 6: 12 + 70 / 6 = 23, less 2; -6 - 35 / 6 = -11, less -1.
        Check.same("21 not OVER again", x.steps(1), 0);
        Drives.stateIs("21 leg 0 again", x, 0, 21, 24, 50, 88);
        Drives.stateIs("21 leg 1 again", x, 1, -10, -11, -25, -44);
    }

    private static void promise21SumsHeldBack() {
        DriveTicks x = new DriveTicks();
        x.sets(6, 1);
        x.sets(4, 0);
        x.sets(5, 0);
        x.leg(0, 0, 200);
        x.wish(0, 0, 100);
        // OVER ahead of the STEP, but SUM 0 has no sign: it grows; DEMANDS are 0 then, so the STEP is not OVER.
        Check.same("21 OVER ahead only", x.steps(1), 0);
        Check.same("21 SUM of 0 grows", x.state(0, 3), 100);
        x.leg(0, 0, 200);
        x.steps(1);
        Check.same("21 SUM held back", x.state(0, 3), 100);
        x.steps(1);
        Check.isTrue("21 SUM grows when not OVER", x.state(0, 3) > 100);
        int sum = x.state(0, 3);
        x.wish(0, 0, -100);
        x.leg(0, 0, 200);
        int e = -100 - x.state(0, 0);
        x.steps(1);
        Check.same("21 of two signs it goes back", x.state(0, 3), sum + e);
    }

    private static void promise21Limits() {
        DriveTicks x = new DriveTicks();
        x.sets(6, 1);
        x.sets(4, 0);
        x.sets(5, 0);
        x.wish(0, 0, 500);
        x.wish(1, 0, -500);
        x.steps(12);
        Check.same("21 SUM 5000 at most", x.state(0, 3), 5000);
        Check.same("21 SUM -5000 at least", x.state(1, 3), -5000);
        x.sets(5, 20);
        x.steps(1);
        Check.same("21 DEMAND 200 at most", x.state(0, 1), 200);
        Check.same("21 DEMAND -200 at least", x.state(1, 1), -200);
        // CURRENTS at their ends: 999 and 32 by 6 .. stays far below 999, as an eighth goes.
        DriveTicks y = new DriveTicks();
        y.leg(0, 1, 999);
        y.leg(1, 1, -999);
        y.steps(1);
        // HIGH 26, 22, 24; MEANS 24, 24, 22: (72 - 70) / 6 = 0; 999 - 124 = 875.
        Check.same("21 an eighth less", y.state(0, 0), 875);
        Check.same("21 an eighth less below 0", y.state(1, 0), -875);
    }

    private static void promise22Settles() {
        DriveTicks x = new DriveTicks();
        Check.same("22 at once", x.settles(0), 0);
        x.leg(0, 1, 100);
        x.sets(1, 0);
        // No DEAD, DEMANDS alike: an eighth less each STEP: 100, 88, 77, 68.
        Check.same("22 as far", x.settles(100), 0);
        Check.same("22 one", x.settles(99), 1);
        Check.same("22 one at its edge", x.settles(88), 1);
        Check.same("22 two", x.settles(87), 2);
        Check.same("22 three", x.settles(68), 3);
        // .. 17, 15, 14, 13 and one less each down to 7 (the 24th); 7 by 8 is 0: there it stays.
        Check.same("22 as near as it gets", x.settles(7), 24);
        Check.same("22 never", x.settles(6), -1);
        Check.same("22 CURRENT stays", x.state(0, 0), 100);
        Check.same("22 STEPS stay", x.count(3), 0);
        Check.same("22 MEMORY stays", x.memory(0, 0), -1000);
        Drives.bad("22 below", x, x.count(0), x.settles(-1));
        Drives.bad("22 above", x, x.count(0), x.settles(501));
        Check.same("22 most", x.settles(500), 0);
    }

    private static void promise22Edges() {
        DriveTicks x = new DriveTicks();
        x.wish(0, 0, 0);
        Check.same("22 a WISH that waits", x.settles(500), 1);
        x.wish(1, 59, 0);
        Check.same("22 sixty", x.settles(500), 60);
        x.wish(1, 60, 0);
        Check.same("22 more than sixty", x.settles(500), -1);
        Check.same("22 WISHES stay", x.count(4), 3);
        x.steps(1);
        Check.same("22 sixty from here on", x.settles(500), 60);
        DriveTicks y = new DriveTicks();
        y.wish(2, 3, 500);
        y.wish(2, 5, 10);
        Check.same("22 WANT as it is by then", y.settles(10), 6);
        Check.same("22 too near", y.settles(9), -1);
        Check.same("22 WANT stays", y.state(2, 2), 0);
    }

    private static void promise23Tunes() {
        DriveTicks x = new DriveTicks();
        Check.same("23 the least of like ones", x.tunes(0), 0);
        x.wish(0, 0, 200);
        Check.same("23 by none", x.tunes(5), -1);
        x.sets(6, 1);
        x.wish(1, 0, -100);
        x.wish(2, 0, -100);
        for (int m = 0; m <= 120; m += 8) {
            Check.same("23 tunes(" + m + ")", x.tunes(m), bestBySettles(x, m));
        }
        Check.same("23 P stays", x.count(9), 8);
        Check.same("23 WISHES stay", x.count(4), 3);
        Drives.bad("23 below", x, x.count(0), x.tunes(-1));
        Drives.bad("23 above", x, x.count(0), x.tunes(501));
        promise23MostPart();
    }

    private static void promise23MostPart() {
        // Rows of Q, three WANTS, m: by the first P 20 is best, by the others 21 would be, were it one.
        int[][] rows = {{2, 35, -20, -15, 9}, {1, 20, 50, -70, 12}, {10, -40, 20, 20, 6}, {3, 45, -20, -25, 7}};
        for (int[] row : rows) {
            DriveTicks x = new DriveTicks();
            x.sets(0, 96);
            x.sets(5, row[0]);
            x.sets(6, 1);
            for (int l = 0; l < 3; l++) {
                x.wish(l, 0, row[1 + l]);
            }
            Check.same("23 tunes with Q " + row[0], x.tunes(row[4]), bestBySettles(x, row[4]));
            Check.isTrue("23 20 at most", x.tunes(row[4]) <= 20);
            if (row == rows[0]) {
                Check.same("23 the most", x.tunes(row[4]), 20);
            }
        }
    }

    private static int bestBySettles(DriveTicks x, int m) {
        int best = -1;
        int fewest = 61;
        int was = x.count(9);
        for (int p = 0; p <= 20; p++) {
            x.sets(4, p);
            int needed = x.settles(m);
            if (needed >= 0 && needed < fewest) {
                fewest = needed;
                best = p;
            }
        }
        x.sets(4, was);
        return best;
    }

    private static void promise24State() {
        DriveTicks x = new DriveTicks();
        x.leg(1, 0, 11);
        x.leg(1, 1, 12);
        x.wish(1, 0, 13);
        Check.same("24 a WISH is no WANT yet", x.state(1, 2), 0);
        Check.same("24 CURRENT", x.state(1, 0), 12);
        Check.same("24 DEMAND", x.state(1, 1), 11);
        x.steps(1);
        Check.same("24 WANT", x.state(1, 2), 13);
        Check.same("24 SUM", x.state(1, 3), 0);
        Drives.bad("24 what above", x, x.count(0), x.state(0, 4));
        Drives.bad("24 what below", x, x.count(0), x.state(0, -1));
        for (int l : Drives.NO_LEGS) {
            Drives.bad("24 leg " + l, x, x.count(0), x.state(l, 0));
        }
    }

    private static void promise25Memory() {
        DriveTicks x = new DriveTicks();
        x.sets(1, 0);
        x.leg(0, 1, 800);
        x.leg(1, 1, -80);
        x.leg(2, 1, 8);
        x.steps(1);
        Check.same("25 one", x.memory(0, 0), 700);
        Check.same("25 leg 1", x.memory(0, 1), -70);
        Check.same("25 leg 2", x.memory(0, 2), 7);
        Check.same("25 OVER", x.memory(0, 3), 0);
        Check.same("25 not so many", x.memory(1, 0), -1000);
        x.leg(0, 0, 200);
        x.steps(1);
        Check.same("25 OVER last", x.memory(0, 3), 1);
        Check.same("25 not OVER ahead", x.memory(1, 3), 0);
        Check.same("25 ahead", x.memory(1, 0), 700);
        x.steps(8);
        Check.same("25 ten", x.memory(9, 0), 700);
        x.steps(1);
        Check.same("25 the first is gone", x.memory(9, 3), 1);
        Check.same("25 ten at most", x.memory(10, 0), -1000);
        Check.same("25 by far", x.memory(Integer.MAX_VALUE, 3), -1000);
        Drives.bad("25 k below", x, x.count(0), x.memory(-1, 0));
        Drives.bad("25 what above", x, x.count(0), x.memory(0, 4));
        Drives.bad("25 what below", x, x.count(0), x.memory(0, -1));
        Drives.bad("25 what above with k above", x, x.count(0), x.memory(99, 4));
    }

    private static void promise26Over() {
        DriveTicks x = new DriveTicks();
        for (int what = 0; what < 3; what++) {
            Check.same("26 empty", x.over(1, what), -1000);
        }
        x.sets(1, 0);
        x.leg(0, 1, 800);
        x.leg(1, 1, -800);
        x.steps(3);
        // 800, 700, 613, 537.
        Check.same("26 greatest", x.over(0, 0), 700);
        Check.same("26 least", x.over(0, 1), 537);
        Check.same("26 greatest below 0", x.over(1, 0), -537);
        Check.same("26 least below 0", x.over(1, 1), -700);
        Check.same("26 none OVER", x.over(2, 2), 0);
        x.leg(0, 0, 200);
        x.steps(2);
        for (int l = 0; l < 3; l++) {
            Check.same("26 two OVER", x.over(l, 2), 2);
        }
        x.steps(50);
        Check.same("26 ten at most", x.over(0, 2), 10);
        Drives.bad("26 what above", x, x.count(0), x.over(0, 3));
        Drives.bad("26 what below", x, x.count(0), x.over(0, -1));
        for (int l : Drives.NO_LEGS) {
            Drives.bad("26 leg " + l, x, x.count(0), x.over(l, 2));
        }
    }

    private static void promise27Type() {
        DriveTicks x = new DriveTicks();
        Check.same("27 least", x.type(0), 1);
        Check.same("27 most", x.type(127), 2);
        Drives.bad("27 below", x, x.count(0), x.type(-1));
        Drives.bad("27 above", x, x.count(0), x.type(128));
        for (int k = 3; k <= 120; k++) {
            Check.same("27 type", x.type(32), k);
        }
        Check.same("27 full", x.type(32), DriveTicks.FULL);
        Check.same("27 full counts", x.count(2), 1);
        Drives.bad("27 BAD ahead of FULL", x, x.count(0), x.type(128));
        Check.same("27 as many", x.count(12), 120);
    }

    private static void promise28Clear() {
        DriveTicks x = new DriveTicks();
        Check.same("28 empty", x.clear(), 0);
        Drives.type(x, "u;v;");
        Check.same("28 four", x.clear(), 4);
        Check.same("28 empty again", x.clear(), 0);
        Check.same("28 no bytes", x.count(12), 0);
        Check.same("28 nothing is left to read", x.reads(), -10);
    }

    private static void promise29Reads() {
        DriveTicks x = Drives.typed("  u+500@999;v - 007 @ 0 ; w ;u@12;v-0;  ");
        Check.same("29 five", x.reads(), 5);
        Drives.wishIs("29 plain", x, 0, 0, 999, 500);
        Drives.wishIs("29 blanks", x, 1, 1, 0, -7);
        Drives.wishIs("29 bare", x, 2, 2, 0, 0);
        Drives.wishIs("29 PERIOD alone", x, 3, 0, 12, 0);
        Drives.wishIs("29 no PERIOD", x, 4, 1, 0, 0);
        Check.same("29 THE TEXT stays", x.count(12), 40);
        Check.same("29 read again", x.reads(), 5);
        Check.same("29 ten wait", x.count(4), 10);
        Check.same("29 no room for the third of them", x.reads(), -10 - 26);
        Check.same("29 ten wait still", x.count(4), 10);
        Check.same("29 -500", Drives.typed("u-500;").reads(), 1);
    }

    private static void faultIs(String text, int place) {
        DriveTicks x = Drives.typed(text);
        Check.same("29 reads of \"" + text + "\"", x.reads(), -10 - place);
        Check.same("29 nothing is done by \"" + text + "\"", x.count(4), 0);
        for (int what = 0; what < 3; what++) {
            Check.same("29 nothing counts by \"" + text + "\"", x.count(what), 0);
        }
    }

    private static void promise29Faults() {
        faultIs("", 0);
        faultIs("   ", 3);
        faultIs("u", 1);
        faultIs("u ", 2);
        faultIs("u+", 2);
        faultIs("u+ ", 3);
        faultIs("u+1", 3);
        faultIs("u+12 ", 5);
        faultIs("u@", 2);
        faultIs("u@7", 3);
        faultIs("u;v", 3);
        faultIs("u; v+2@3", 8);
        faultIs(";", 0);
        faultIs("u;;", 2);
        faultIs("t;", 0);
        faultIs("x;", 0);
        faultIs("U;", 0);
        faultIs("uu;", 1);
        faultIs("u1;", 1);
        faultIs("u+;", 2);
        faultIs("u+-1;", 2);
        faultIs("u+501;", 2);
        faultIs("u- 501;", 3);
        faultIs("u+999", 2);
        faultIs("u+0001;", 2);
        faultIs("u+1000;", 2);
        faultIs("u+99999999999999999999;", 2);
        faultIs("u+4294967296;", 2);
        faultIs("u+1 2;", 4);
        faultIs("u+1x;", 3);
        faultIs("u@;", 2);
        faultIs("u@-1;", 2);
        faultIs("u@1000;", 2);
        faultIs("u@0000", 2);
        faultIs("u@1 2;", 4);
        faultIs("u@1+2;", 3);
        faultIs("u@1@2;", 3);
        faultIs("u+1+2;", 3);
        faultIs("u;v;x", 4);
        faultIs("u\t;", 1);
        faultIs("u+/;", 2);
        faultIs("u+:;", 2);
        faultIs("u,", 1);
    }

    private static void promise29Full() {
        DriveTicks x = Drives.typed("u;u;u;u;u;u;u;u;u;u;u;u;");
        Check.same("29 twelve", x.reads(), 12);
        DriveTicks y = Drives.typed("u;u;u;u;u;u;u;u;u;u;u;u; v;");
        Check.same("29 thirteen", y.reads(), -10 - 25);
        Check.same("29 none of them", y.count(4), 0);
        Check.same("29 no FULL counts", y.count(2), 0);
        DriveTicks z = Drives.typed("u;v;x");
        for (int k = 0; k < 11; k++) {
            z.wish(0, 5, k);
        }
        Check.same("29 the letter ahead of a later fault", z.reads(), -10 - 2);
        z.clear();
        Drives.type(z, "w-3@4;");
        Check.same("29 one more", z.reads(), 1);
        Drives.wishIs("29 behind those that wait", z, 11, 2, 4, -3);
        z.clear();
        Drives.type(z, " x");
        Check.same("29 no letter", z.reads(), -10 - 1);
        z.clear();
        Drives.type(z, " u");
        Check.same("29 a letter too many ahead of an end too early", z.reads(), -10 - 1);
    }

    private static void promise29Period() {
        DriveTicks x = Drives.typed("u+5;");
        x.steps(7);
        Check.same("29 reads", x.reads(), 1);
        Drives.wishIs("29 as many as STEPS are done", x, 0, 0, 7, 5);
        x.steps(1);
        Check.same("29 it came", x.state(0, 2), 5);
        for (int k = 0; k < 19; k++) {
            x.steps(50);
        }
        x.steps(41);
        Check.same("29 STEPS", x.count(3), 999);
        x.reads();
        Drives.wishIs("29 at 999", x, 0, 0, 999, 5);
        x.steps(1);
        x.reads();
        Drives.wishIs("29 999 at most", x, 0, 0, 999, 5);
    }

    private static void promise30Count() {
        DriveTicks x = new DriveTicks();
        Drives.bad("30 above", x, 0, x.count(13));
        Drives.bad("30 below", x, 1, x.count(-1));
        Drives.bad("30 far", x, 2, x.count(Integer.MIN_VALUE));
        for (int k = 0; k < 13; k++) {
            x.wish(0, 0, 0);
        }
        int[] setting = {60, 3, 0, 5, 6, 7, 1};
        for (int what = 0; what < 7; what++) {
            x.sets(what, setting[what]);
        }
        x.type('u');
        x.type('v');
        int[] due = {3, 0, 1, 0, 12, 60, 3, 0, 5, 6, 7, 1, 2};
        for (int what = 0; what < 13; what++) {
            Check.same("30 count(" + what + ")", x.count(what), due[what]);
        }
        x.steps(4);
        Check.same("30 STEPS", x.count(3), 4);
        Check.same("30 WISHES", x.count(4), 0);
    }

    private static void promise31Digest() {
        DriveTicks x = new DriveTicks();
        Check.same("31 at first", x.digest(), digestByCalls(x));
        x.draw(4711);
        x.sets(6, 1);
        x.wish(2, 3, -44);
        x.wish(0, 900, 55);
        x.type('w');
        x.leg(9, 9, 9);
        x.steps(3);
        Check.same("31 with WISHES", x.digest(), digestByCalls(x));
        Check.same("31 two wait", x.count(4), 2);
        long before = x.digest();
        x.settles(3);
        x.tunes(3);
        x.shift(0);
        x.events();
        Check.same("31 nothing changed", x.digest(), before);
    }

    private static long digestByCalls(DriveTicks x) {
        long h = 2069;
        for (int what = 0; what <= 12; what++) {
            h = 31 * h + x.count(what);
        }
        for (int l = 0; l < 3; l++) {
            for (int what = 0; what <= 3; what++) {
                h = 31 * h + x.state(l, what);
            }
            h = 31 * h + x.of(l, 0);
            h = 31 * h + x.of(l, 2);
        }
        for (int k = 0; k < x.count(4); k++) {
            for (int what = 0; what < 3; what++) {
                h = 31 * h + x.wished(k, what);
            }
        }
        h = 31 * h + x.plan(0);
        return 31 * h + x.plan(4);
    }
}
