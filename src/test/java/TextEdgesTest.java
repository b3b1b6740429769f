/**
 * THE TEXT, promises 27 to 29: each sentence of the document that names a boundary case has a method of its own
 * here, with the sentence above it and places told by hand.
 */
public final class TextEdgesTest {
    private static final String TEN_BYTES = "u+500@999;";

    public static void main(String[] args) {
        bytesOfAText();
        fullText();
        fullTextIsRead();
        clearedText();
        letters();
        signs();
        wants();
        wantsOfOneToThreeFigures();
        wantsLeftOut();
        periods();
        periodsOfOneToThreeFigures();
        periodsLeftOut();
        eachEndedBySemicolon();
        blanksAnywhere();
        blanksNotInNumbers();
        onlyThatByteIsABlank();
        bytesThatCanNotStandThere();
        textThatEndsTooEarly();
        emptyText();
        faultAtTheLastByte();
        oneWishTooMany();
        oneWishTooManyWithThoseThatWait();
        firstFaultCounts();
        nothingIsDoneByAFault();
        Check.finish("TextEdgesTest");
    }

    private static String times(String part, int n) {
        return part.repeat(n);
    }

    /** reads() of a new object answers the place, and nothing is done and nothing counts. */
    private static void faultIs(String text, int place) {
        DriveTicks x = Drives.typed(text);
        Check.same("FAULT of \"" + text + "\"", x.reads(), -10 - place);
        Check.same("nothing waits by \"" + text + "\"", x.count(4), 0);
        Check.same("it stays: \"" + text + "\"", x.count(12), text.length());
        Drives.nothingRefused("nothing counts by \"" + text + "\"", x);
    }

    /** reads() of a new object tells one WISH, which is this one. */
    private static void oneIs(String text, int l, int period, int w) {
        DriveTicks x = Drives.typed(text);
        Check.same("reads of \"" + text + "\"", x.reads(), 1);
        Check.same("one waits by \"" + text + "\"", x.count(4), 1);
        Drives.wishIs("\"" + text + "\"", x, 0, l, period, w);
    }

    /** "A byte (0 .. 127) comes behind THE TEXT: how many it has. BAD". */
    private static void bytesOfAText() {
        DriveTicks x = new DriveTicks();
        Check.same("byte 0", x.type(0), 1);
        Check.same("byte 127", x.type(127), 2);
        for (int c : new int[] {-1, 128, 255, 256 + 'u', Integer.MIN_VALUE, Integer.MAX_VALUE}) {
            Drives.bad("type(" + c + ")", x, x.count(0), x.type(c));
            Check.same("no byte by " + c, x.count(12), 2);
        }
        Check.same("byte 1", x.type(1), 3);
        Check.same("byte 126", x.type(126), 4);
    }

    /** "THE TEXT (120 bytes at most)", "FULL: 120." */
    private static void fullText() {
        DriveTicks x = Drives.typed(times(" ", 119));
        Check.same("119", x.count(12), 119);
        Check.same("the 120th", x.type('x'), 120);
        Check.same("the 121st", x.type('u'), DriveTicks.FULL);
        Check.same("FULL counts", x.count(2), 1);
        Check.same("120 stay", x.count(12), 120);
        Check.same("BAD ahead of FULL", x.type(128), DriveTicks.BAD);
        Check.same("no FULL by it", x.count(2), 1);
        Check.same("the last one stays", x.reads(), -10 - 119);
        Check.same("cleared", x.clear(), 120);
        Check.same("room again", x.type('u'), 1);
    }

    /** "THE TEXT (120 bytes at most)", "12 at most wait": both full at once. */
    private static void fullTextIsRead() {
        DriveTicks x = Drives.typed(times(TEN_BYTES, 12));
        Check.same("bytes", x.count(12), 120);
        Check.same("twelve", x.reads(), 12);
        for (int k = 0; k < 12; k++) {
            Drives.wishIs("of a full TEXT", x, k, 0, 999, 500);
        }
        Check.same("once more: no room", x.reads(), -10);
        Check.same("FULL does not count", x.count(2), 0);
        DriveTicks y = Drives.typed(times(" ", 118) + "v;");
        Check.same("at the end of a full TEXT", y.reads(), 1);
    }

    /** "THE TEXT is empty: how many it had." */
    private static void clearedText() {
        DriveTicks x = new DriveTicks();
        Check.same("none", x.clear(), 0);
        Drives.type(x, TEN_BYTES);
        Check.same("ten", x.clear(), 10);
        Check.same("none any more", x.clear(), 0);
        Check.same("no bytes", x.count(12), 0);
        Check.same("nothing to read", x.reads(), -10);
        Drives.type(x, "w");
        Check.same("nothing is left behind a new one", x.reads(), -11);
        Drives.nothingRefused("clear", x);
    }

    /** "a letter u, v, w (LEG 0, 1, 2)". */
    private static void letters() {
        oneIs("u;", 0, 0, 0);
        oneIs("v;", 1, 0, 0);
        oneIs("w;", 2, 0, 0);
        for (String other : new String[] {"t", "x", "U", "V", "W", "0", "+", "-", "@", ";", "\0", "\177"}) {
            faultIs(other + ";", 0);
            faultIs("u;" + other + ";", 2);
        }
        faultIs("uv;", 1);
        faultIs("uu;", 1);
    }

    /** "perhaps with + or -". */
    private static void signs() {
        oneIs("u+7;", 0, 0, 7);
        oneIs("u-7;", 0, 0, -7);
        faultIs("u7;", 1);
        faultIs("u++7;", 2);
        faultIs("u+-7;", 2);
        faultIs("u-+7;", 2);
        faultIs("u*7;", 1);
        faultIs("u,7;", 1);
        faultIs("u.7;", 1);
    }

    /** "(w, 500 at most ..)", "of a number above 500 .. its first byte". */
    private static void wants() {
        oneIs("u+0;", 0, 0, 0);
        oneIs("u-0;", 0, 0, 0);
        oneIs("u+499;", 0, 0, 499);
        oneIs("u+500;", 0, 0, 500);
        oneIs("u-500;", 0, 0, -500);
        faultIs("u+501;", 2);
        faultIs("u-501;", 2);
        faultIs("u+ 501;", 3);
        faultIs("u+999;", 2);
        faultIs("u;v+501;", 4);
        faultIs("u+501", 2);
        faultIs("u+501x", 2);
    }

    /** "1 to 3 figures", "of four figures or more: its first byte". */
    private static void wantsOfOneToThreeFigures() {
        oneIs("u+1;", 0, 0, 1);
        oneIs("u+12;", 0, 0, 12);
        oneIs("u+123;", 0, 0, 123);
        oneIs("u+000;", 0, 0, 0);
        oneIs("u-007;", 0, 0, -7);
        faultIs("u+;", 2);
        faultIs("u+@1;", 2);
        faultIs("u+ ;", 3);
        faultIs("u+0000;", 2);
        faultIs("u+0123;", 2);
        faultIs("u+1234;", 2);
        faultIs("u+1000", 2);
        faultIs("u+4294967297;", 2);
        faultIs("u+18446744073709551617;", 2);
        faultIs("u+" + times("0", 118), 2);
        faultIs("u+/;", 2);
        faultIs("u+:;", 2);
    }

    /** "(w ..; else 0)". */
    private static void wantsLeftOut() {
        oneIs("v@5;", 1, 5, 0);
        oneIs("v;", 1, 0, 0);
        DriveTicks x = Drives.typed("u+9;u;u-9;u@3;");
        Check.same("four", x.reads(), 4);
        Drives.wishIs("with", x, 0, 0, 0, 9);
        Drives.wishIs("without, behind one with", x, 1, 0, 0, 0);
        Drives.wishIs("with again", x, 2, 0, 0, -9);
        Drives.wishIs("without, with PERIOD", x, 3, 0, 3, 0);
    }

    /** "perhaps with @ and 1 to 3 figures behind (PERIOD ..)": 0 .. 999, and not 500 at most. */
    private static void periods() {
        oneIs("u@0;", 0, 0, 0);
        oneIs("u@500;", 0, 500, 0);
        oneIs("u@501;", 0, 501, 0);
        oneIs("u@999;", 0, 999, 0);
        oneIs("u+500@999;", 0, 999, 500);
        oneIs("u-1@1;", 0, 1, -1);
        faultIs("u@+1;", 2);
        faultIs("u@-1;", 2);
        faultIs("u@@1;", 2);
        faultIs("u@1@1;", 3);
        faultIs("u@1+1;", 3);
        faultIs("@1;", 0);
        faultIs("u+1 5@1;", 4);
    }

    /** "1 to 3 figures", "of four figures or more: its first byte". */
    private static void periodsOfOneToThreeFigures() {
        oneIs("u@1;", 0, 1, 0);
        oneIs("u@12;", 0, 12, 0);
        oneIs("u@012;", 0, 12, 0);
        oneIs("u@000;", 0, 0, 0);
        faultIs("u@;", 2);
        faultIs("u@ ;", 3);
        faultIs("u@0000;", 2);
        faultIs("u@1000;", 2);
        faultIs("u@ 1000;", 3);
        faultIs("u@9999", 2);
        faultIs("u+1@12345;", 4);
        faultIs("u@4294967297;", 2);
        faultIs("u@/;", 2);
        faultIs("u@:;", 2);
    }

    /** "(PERIOD; else as many as STEPS are done, 999 at most)". */
    private static void periodsLeftOut() {
        DriveTicks x = Drives.typed("w+4;");
        x.reads();
        Drives.wishIs("none done", x, 0, 2, 0, 4);
        x.steps(50);
        x.reads();
        Drives.wishIs("50 done", x, 0, 2, 50, 4);
        for (int k = 0; k < 18; k++) {
            x.steps(50);
        }
        x.steps(48);
        int[] dues = {998, 999, 999, 999};
        for (int k = 0; k < dues.length; k++) {
            Check.same("STEPS done", x.count(3), 998 + k);
            Check.same("reads", x.reads(), 1);
            Drives.wishIs((998 + k) + " done", x, 0, 2, dues[k], 4);
            x.steps(1);
            Check.same("it came with the next STEP", x.count(4), 0);
        }
    }

    /** "WISHES, each ended by ;". */
    private static void eachEndedBySemicolon() {
        faultIs("u;;", 2);
        faultIs(";", 0);
        faultIs(";u;", 0);
        faultIs("u,v;", 1);
        faultIs("u:", 1);
        faultIs("u v;", 2);
        faultIs("u+1v;", 3);
        faultIs("u@1v;", 3);
        DriveTicks x = Drives.typed("u;v;w;");
        Check.same("three", x.reads(), 3);
        for (int l = 0; l < 3; l++) {
            Drives.wishIs("in their order", x, l, l, 0, 0);
        }
    }

    /** "Blanks (32) may stand anywhere". */
    private static void blanksAnywhere() {
        oneIs(" u+5@6;", 0, 6, 5);
        oneIs("u +5@6;", 0, 6, 5);
        oneIs("u+ 5@6;", 0, 6, 5);
        oneIs("u+5 @6;", 0, 6, 5);
        oneIs("u+5@ 6;", 0, 6, 5);
        oneIs("u+5@6 ;", 0, 6, 5);
        oneIs("u+5@6; ", 0, 6, 5);
        oneIs("u @6;", 0, 6, 0);
        oneIs("u ;", 0, 0, 0);
        oneIs("   u   -   5   @   6   ;   ", 0, 6, -5);
        DriveTicks x = Drives.typed(" u ;  v ; ");
        Check.same("between two", x.reads(), 2);
    }

    /** "anywhere but in numbers." */
    private static void blanksNotInNumbers() {
        faultIs("u+1 2;", 4);
        faultIs("u+1  2;", 5);
        faultIs("u@1 2;", 4);
        faultIs("u+12 3@4;", 5);
        faultIs("u+5 01;", 4);
    }

    /** "Blanks (32)": no other byte is one. */
    private static void onlyThatByteIsABlank() {
        for (char c : new char[] {0, 9, 10, 13, 31, 33, '_', 127}) {
            faultIs(c + "u;", 0);
            faultIs("u" + c + ";", 1);
            faultIs("u;" + c, 2);
        }
    }

    /** "FAULT: the place of the first byte that can not stand there". */
    private static void bytesThatCanNotStandThere() {
        faultIs("xu;", 0);
        faultIs("  x", 2);
        faultIs("ux", 1);
        faultIs("u  x", 3);
        faultIs("u+x", 2);
        faultIs("u+1x", 3);
        faultIs("u+12x", 4);
        faultIs("u+123x", 5);
        faultIs("u+1@x", 4);
        faultIs("u+1@2x", 5);
        faultIs("u+1@2;x", 6);
        faultIs("u+1@2; x", 7);
        faultIs("u;v;w;x;y;", 6);
    }

    /** "the TEXT's length, if it ends too early". */
    private static void textThatEndsTooEarly() {
        String whole = " u - 12 @ 345 ;";
        for (int k = 0; k < whole.length(); k++) {
            faultIs(whole.substring(0, k), k);
            faultIs("v;" + whole.substring(0, k) + "u", k <= 1 ? k + 3 : k + 2);
        }
        oneIs(whole, 0, 345, -12);
        faultIs(times(TEN_BYTES, 11) + "u+500@999", 119);
        faultIs(times(TEN_BYTES, 11) + "u+500@999 ", 120);
    }

    /** "(an empty one, too)", and blanks alone are an empty one that is longer. */
    private static void emptyText() {
        faultIs("", 0);
        faultIs(" ", 1);
        faultIs(times(" ", 120), 120);
    }

    /** The last places that a FAULT can have. */
    private static void faultAtTheLastByte() {
        faultIs(times(" ", 119) + "x", 119);
        faultIs(times(" ", 119) + "u", 120);
        faultIs(times(" ", 118) + "u@", 120);
        faultIs(times(TEN_BYTES, 11) + times(" ", 9) + "!", 119);
    }

    /** "a WISH more than may wait .. its letter". */
    private static void oneWishTooMany() {
        DriveTicks x = Drives.typed(times("v;", 12));
        Check.same("twelve", x.reads(), 12);
        faultIs(times("v;", 13), 24);
        faultIs(times("v;", 12) + "  w+1@2;", 26);
        faultIs(times("v;", 60), 24);
        DriveTicks y = Drives.typed(times("v;", 12) + "   ");
        Check.same("twelve and blanks", y.reads(), 12);
    }

    /** "a WISH more than may wait, with those that do: its letter". */
    private static void oneWishTooManyWithThoseThatWait() {
        for (int waiting = 0; waiting <= 12; waiting++) {
            int room = 12 - waiting;
            DriveTicks x = Drives.typed(times("v;", room));
            waits(x, waiting);
            Check.same("room for " + room, x.reads(), room == 0 ? -10 : room);
            DriveTicks y = Drives.typed(times("v;", room) + " w;");
            waits(y, waiting);
            Check.same("one more than " + room, y.reads(), -10 - 2 * room - 1);
            Check.same("none came, with " + waiting, y.count(4), waiting);
            Drives.nothingRefused("FULL does not count", y);
        }
    }

    private static void waits(DriveTicks x, int n) {
        for (int k = 0; k < n; k++) {
            x.wish(0, 900, k);
        }
    }

    /** "the first byte": of two FAULTS the one that is ahead. */
    private static void firstFaultCounts() {
        faultIs("x;u+501;", 0);
        faultIs("u+501;x;", 2);
        faultIs("u+1000@1000;", 2);
        faultIs("u+1@1000", 4);
        faultIs(times("v;", 11) + "x;v;v;", 22);
        faultIs(times("v;", 12) + "x;", 24);
        faultIs(times("v;", 12) + "w+501;", 24);
        faultIs(times("v;", 12) + "w", 24);
        faultIs(times("v;", 12) + ";", 24);
    }

    /** "If there is one, nothing is done.", "By a FAULT nothing counts." */
    private static void nothingIsDoneByAFault() {
        DriveTicks x = new DriveTicks();
        x.wish(1, 5, 55);
        x.steps(0);
        Drives.type(x, "u+1;v+2;w+3;x");
        long before = x.digest();
        Check.same("the last byte", x.reads(), -10 - 12);
        Check.same("all is as it was", x.digest(), before);
        Check.same("one waits", x.count(4), 1);
        Drives.wishIs("it is as it was", x, 0, 1, 5, 55);
        Check.same("again the same", x.reads(), -10 - 12);
        Check.same("BAD", x.count(0), 1);
        Check.same("NO", x.count(1), 0);
        Check.same("FULL", x.count(2), 0);
        x.clear();
        Drives.type(x, "u+1;v+2;w+3;");
        Check.same("without it", x.reads(), 3);
        Drives.wishIs("behind the one that waited", x, 3, 2, 0, 3);
    }
}
