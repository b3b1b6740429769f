import java.util.List;

/** Counts answers that are not as due, and ends a test's program with exit code 1 if there was one. */
final class Check {
    private static int right = 0;
    private static int wrong = 0;

    private Check() {
    }

    static void same(String call, long got, long due) {
        if (got == due) {
            right++;
            return;
        }
        wrong++;
        if (wrong <= 40) {
            System.out.println(call + " answered " + got + ", due is " + due);
        }
    }

    static void isTrue(String what, boolean holds) {
        same(what, holds ? 1 : 0, 1);
    }

    static void sameList(String what, List<?> got, List<?> due) {
        if (!got.equals(due)) {
            System.out.println(what + ": got " + got + ", due " + due);
        }
        isTrue(what, got.equals(due));
    }

    static void finish(String test) {
        System.out.println(test + ": " + right + " answers as due, " + wrong + " not");
        if (wrong != 0 || right == 0) {
            System.exit(1);
        }
    }
}
