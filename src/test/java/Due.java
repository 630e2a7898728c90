/** Counts the answers that are not the ones due, and ends a test with what it counted. */
final class Due {
    static final long BEYOND = -1000000001L;
    static final long FULL = -1000000002L;
    static final long KIND = -1000000003L;
    static final long NONE = -1000000004L;
    static final long STATE = -1000000005L;
    static final long MISSING = -1000000006L;
    static final long SIZE = -1000000007L;

    private static int asked = 0;
    private static int wrong = 0;

    private Due() {
    }

    static void due(String what, long got, long want) {
        asked++;
        if (got != want) {
            wrong++;
            System.out.println(what + ": answered " + got + ", due is " + want);
        }
    }

    static void end(String test) {
        System.out.println(test + ": " + asked + " answers, " + wrong + " not as due");
        if (wrong != 0 || asked == 0) {
            System.exit(1);
        }
    }

    /** Feeds a text, up to four bytes at a call. */
    static void feed(WallShifts x, String text) {
        for (int at = 0; at < text.length(); at += 4) {
            int n = Math.min(4, text.length() - at);
            int bytes = 0;
            for (int i = 0; i < n; i++) {
                bytes = bytes << 8 | text.charAt(at + i) & 255;
            }
            due("feed of \"" + text + "\"", x.feed(bytes, n), at + n);
        }
    }

    /** What palace() answers to a text. */
    static int told(WallShifts x, String text) {
        feed(x, text);
        return x.palace();
    }

    /** Lets a palace come to a minute; it must be at an earlier one. */
    static void passTo(WallShifts x, int minute) {
        while (x.now(0) < minute) {
            x.pass(Math.min(240, minute - x.now(0)));
        }
    }
}
