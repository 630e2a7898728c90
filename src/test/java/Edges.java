import java.util.ArrayList;
import java.util.List;
import java.util.function.Supplier;
import java.util.function.ToLongFunction;

/** Asks calls at the edges of what their arguments may be, and whether a finding leaves all alone. */
final class Edges {
    /** A call with one argument open. */
    interface Act {
        long on(WallShifts x, int v);
    }

    private Edges() {
    }

    /** From least to most an argument is not BEYOND; just outside, and far outside, it is. */
    static void range(Supplier<WallShifts> made, int least, int most, Act act) {
        for (int v : new int[] {least, most}) {
            Due.due("BEYOND of " + v, act.on(made.get(), v) == Due.BEYOND ? 1 : 0, 0);
        }
        for (int v : new int[] {least - 1, most + 1, Integer.MIN_VALUE, Integer.MAX_VALUE}) {
            refused(made, x -> act.on(x, v), Due.BEYOND);
        }
    }

    /** A call answers a finding, which is counted once, and all else is as if it hadn't been. */
    static void refused(Supplier<WallShifts> made, ToLongFunction<WallShifts> call, long finding) {
        WallShifts x = made.get();
        int which = (int) (Due.BEYOND - finding);
        long all = x.status(-1);
        long such = x.status(which);
        Due.due("the finding", call.applyAsLong(x), finding);
        Due.due("that finding counted", x.status(which), such + 1);
        Due.due("all findings counted", x.status(-1), all + 1);
        same("after the finding", x, made.get());
    }

    /** A call changes nothing: all is as if it hadn't been, findings counted too. */
    static void unchanged(Supplier<WallShifts> made, ToLongFunction<WallShifts> call) {
        WallShifts x = made.get();
        WallShifts y = made.get();
        call.applyAsLong(x);
        for (int which = -1; which <= 6; which++) {
            Due.due("findings " + which, x.status(which), y.status(which));
        }
        same("after the call", x, y);
    }

    /** Two objects answer the same; they are used up by being asked. */
    static void same(String when, WallShifts x, WallShifts y) {
        List<Long> one = x.now(0) > 90000 ? few(x) : all(x);
        List<Long> other = y.now(0) > 90000 ? few(y) : all(y);
        Due.due("answers " + when, one.size(), other.size());
        for (int i = 0; i < Math.min(one.size(), other.size()); i++) {
            Due.due("answer " + i + " " + when, one.get(i), other.get(i));
        }
    }

    private static List<Long> few(WallShifts x) {
        List<Long> seen = new ArrayList<>();
        palace(x, seen);
        return seen;
    }

    /** The palace, the sheets, the tape (by what its text comes to), the palace kept. */
    private static List<Long> all(WallShifts x) {
        List<Long> seen = new ArrayList<>();
        palace(x, seen);
        for (int s = 0; s < 4; s++) {
            sheet(x, s, seen);
        }
        seen.add((long) x.palace());
        palace(x, seen);
        seen.add((long) x.undo());
        palace(x, seen);
        seen.add((long) x.tear());
        return seen;
    }

    private static void sheet(WallShifts x, int s, List<Long> seen) {
        // All bits that a number may have, and then those of them that stayed.
        seen.add(x.write(s, 0, 0x7172737475767778L));
        for (int i = 0; i <= 40; i++) {
            long was = x.write(s, i, 0);
            seen.add(was);
            if (was == Due.BEYOND || was == Due.MISSING) {
                return;
            }
        }
    }

    private static void palace(WallShifts x, List<Long> seen) {
        for (int what = 0; what <= 6; what++) {
            seen.add((long) x.now(what));
        }
        for (int what = 3; what >= 0; what--) {
            seen.add((long) x.count(what));
        }
        long walls = seen.get(seen.size() - 1);
        for (int wall = 0; wall < walls; wall++) {
            for (int what = 0; what <= 5; what++) {
                seen.add((long) x.of(wall, what));
            }
        }
    }

    static void yes(String what, boolean is) {
        Due.due(what, is ? 1 : 0, 1);
    }

    static void no(String what, boolean is) {
        Due.due(what, is ? 1 : 0, 0);
    }
}
