/** Counts the answers that are not the ones due, and ends a test with what it counted. */
final class Due {
    static final long BEYOND = -1000000001L;
    static final long FULL = -1000000002L;
    static final long KIND = -1000000003L;
    static final long NONE = -1000000004L;
    static final long STATE = -1000000005L;
    static final long MISSING = -1000000006L;
    static final long SIZE = -1000000007L;

    private static int asked = 0;
    private static int wrong = 0;
    private static String under = "";

    private Due() {
    }

    static void due(String what, long got, long want) {
        asked++;
        if (got != want) {
            wrong++;
            System.out.println(under + what + ": answered " + got + ", due is " + want);
        }
    }

    /** What is told ahead of each wrong answer from now on. */
    static void under(String title) {
        under = title;
    }

    static int asked() {
        return asked;
    }

    static void end(String test) {
        System.out.println(test + ": " + asked + " answers, " + wrong + " not as due");
        if (wrong != 0 || asked == 0) {
            System.exit(1);
        }
    }

    /** Feeds a text, up to four bytes at a call. */
    static void feed(WallShifts x, String text) {
        for (int at = 0; at < text.length(); at += 4) {
            int n = Math.min(4, text.length() - at);
            int bytes = 0;
            for (int i = 0; i < n; i++) {
                bytes = bytes << 8 | text.charAt(at + i) & 255;
            }
            due("feed of \"" + text + "\"", x.feed(bytes, n), at + n);
        }
    }

    /** What palace() answers to a text. */
    static int told(WallShifts x, String text) {
        feed(x, text);
        return x.palace();
    }

    /**
     * Lets a palace come to a minute; it must be at an earlier one. To 99999 that takes 418 of the
     * 512 calls that an object is promised for.
     */
    static void passTo(WallShifts x, int minute) {
        int here = x.now(0);
        while (here < minute) {
            int n = Math.min(240, minute - here);
            due("pass to " + minute, x.pass(n), here + n);
            here += n;
        }
    }
}
