/** Promises 1 to 8: a new object, the rota, and walls. */
public final class PalaceTest {
    private static final int MIN = Integer.MIN_VALUE;
    private static final int MAX = Integer.MAX_VALUE;

    public static void main(String[] args) {
        newObject();
        rota();
        wall();
        of();
        set();
        turn();
        as();
        hears();
        Due.end("PalaceTest");
    }

    private static void newObject() {
        WallShifts x = new WallShifts();
        long[] now = {0, 15, 2, 0, 5, 0, 0};
        for (int what = 0; what < now.length; what++) {
            Due.due("P1 now " + what, x.now(what), now[what]);
        }
        for (int what = 0; what <= 3; what++) {
            Due.due("P1 count " + what, x.count(what), 0);
        }
        for (int s = 0; s <= 3; s++) {
            Due.due("P1 sheets are missing", x.write(s, 0, 0), Due.MISSING);
        }
        Due.due("P1 no image", x.undo(), Due.NONE);
        Due.due("P1 no image to tear", x.tear(), 0);
        Due.due("P1 tape", x.wipe(), 0);
        Due.due("P1 no walls", x.of(0, 0), Due.BEYOND);
    }

    private static void rota() {
        WallShifts x = new WallShifts();
        int[] first = {15, 2, 0, 5};
        int[] least = {1, 0, 0, 1};
        int[] most = {60, 60, 3, 20};
        for (int what = 0; what < 4; what++) {
            Due.due("P2 least of " + what, x.rota(what, least[what]), first[what]);
            Due.due("P2 most of " + what, x.rota(what, most[what]), least[what]);
            Due.due("P2 below least of " + what, x.rota(what, least[what] - 1), Due.BEYOND);
            Due.due("P2 above most of " + what, x.rota(what, most[what] + 1), Due.BEYOND);
            Due.due("P2 far below", x.rota(what, MIN), Due.BEYOND);
            Due.due("P2 far above", x.rota(what, MAX), Due.BEYOND);
            Due.due("P2 it stays", x.now(what + 1), most[what]);
        }
        for (int what : new int[] {-1, 4, MIN, MAX}) {
            Due.due("P2 no such what", x.rota(what, 1), Due.BEYOND);
        }
        Due.due("P2 counted", x.status(0), 20);
    }

    private static void wall() {
        WallShifts x = new WallShifts();
        for (int bad : new int[] {-1, 6, MIN, MAX}) {
            Due.due("P3 kind " + bad, x.wall(bad, 0, 0), Due.BEYOND);
        }
        for (int bad : new int[] {-1, 10, MIN, MAX}) {
            Due.due("P3 room " + bad, x.wall(0, bad, 0), Due.BEYOND);
            Due.due("P3 other " + bad, x.wall(0, 0, bad), Due.BEYOND);
        }
        for (int i = 0; i < 10; i++) {
            Due.due("P3 number", x.wall(i % 6, i, 9 - i), i);
        }
        for (int i = 0; i < 10; i++) {
            Due.due("P3 kind of", x.of(i, 0), i % 6);
            Due.due("P3 room of", x.of(i, 1), i);
            Due.due("P3 other of", x.of(i, 2), 9 - i);
            Due.due("P3 side of", x.of(i, 3), 0);
            Due.due("P3 file of", x.of(i, 4), 0);
            Due.due("P3 tired of", x.of(i, 5), 0);
        }
        Due.due("P3 full", x.wall(0, 0, 0), Due.FULL);
        Due.due("P3 BEYOND is asked ahead of FULL", x.wall(6, 0, 0), Due.BEYOND);
        Due.due("P3 still ten", x.count(0), 10);
        Due.due("P3 fulls counted", x.status(1), 1);
    }

    private static void of() {
        WallShifts x = new WallShifts();
        int[] tires = {1, 1, 1, 2, 0, 2};
        for (int kind = 0; kind < 6; kind++) {
            x.wall(kind, 3, 4);
            Due.due("P4 tires, kind " + kind, x.of(kind, 8), tires[kind]);
            Due.due("P4 on duty, kind " + kind, x.of(kind, 6), 0);
            Due.due("P4 awake, kind " + kind, x.of(kind, 7), 1);
        }
        x.pass(2);
        for (int kind = 0; kind < 6; kind++) {
            Due.due("P4 on duty at 2, kind " + kind, x.of(kind, 6), 1);
        }
        x.set(0, 5, 4);
        Due.due("P4 awake below courage", x.of(0, 7), 1);
        x.set(0, 5, 5);
        Due.due("P4 asleep at courage", x.of(0, 7), 0);
        x.rota(3, 6);
        Due.due("P4 awake with more courage", x.of(0, 7), 1);
        for (int bad : new int[] {-1, 9, MIN, MAX}) {
            Due.due("P4 what " + bad, x.of(0, bad), Due.BEYOND);
        }
        for (int bad : new int[] {-1, 6, 10, MIN, MAX}) {
            Due.due("P4 wall " + bad, x.of(bad, 0), Due.BEYOND);
        }
    }

    private static void set() {
        WallShifts x = new WallShifts();
        x.wall(0, 1, 2);
        x.wall(5, 7, 8);
        int[] was = {0, 1, 2, 0, 0, 0};
        int[] most = {0, 9, 9, 3, 65535, 99};
        for (int what = 1; what <= 5; what++) {
            Due.due("P5 most of " + what, x.set(0, what, most[what]), was[what]);
            Due.due("P5 above most of " + what, x.set(0, what, most[what] + 1), Due.BEYOND);
            Due.due("P5 below least of " + what, x.set(0, what, -1), Due.BEYOND);
            Due.due("P5 it stays " + what, x.of(0, what), most[what]);
            Due.due("P5 least of " + what, x.set(0, what, 0), most[what]);
            Due.due("P5 it is 0 " + what, x.of(0, what), 0);
        }
        Due.due("P5 not the kind", x.set(0, 0, 1), Due.BEYOND);
        for (int bad : new int[] {-1, 6, 7, 8, MIN, MAX}) {
            Due.due("P5 what " + bad, x.set(0, bad, 0), Due.BEYOND);
        }
        for (int bad : new int[] {-1, 2, 10, MIN, MAX}) {
            Due.due("P5 wall " + bad, x.set(bad, 3, 0), Due.BEYOND);
        }
        int[] second = {5, 7, 8, 0, 0, 0};
        for (int what = 0; what <= 5; what++) {
            Due.due("P5 the other wall is left alone " + what, x.of(1, what), second[what]);
        }
    }

    private static void turn() {
        WallShifts x = new WallShifts();
        x.wall(3, 1, 2);
        x.set(0, 4, 77);
        x.set(0, 5, 9);
        x.set(0, 3, 2);
        Due.due("P6 it was", x.turn(0, 5), 3);
        Due.due("P6 it was then", x.turn(0, 0), 5);
        long[] all = {0, 1, 2, 2, 77, 9};
        for (int what = 0; what <= 5; what++) {
            Due.due("P6 the rest stays " + what, x.of(0, what), all[what]);
        }
        for (int bad : new int[] {-1, 6, MIN, MAX}) {
            Due.due("P6 kind " + bad, x.turn(0, bad), Due.BEYOND);
        }
        for (int bad : new int[] {-1, 1, 10, MIN, MAX}) {
            Due.due("P6 wall " + bad, x.turn(bad, 0), Due.BEYOND);
        }
    }

    private static void as() {
        WallShifts x = new WallShifts();
        int[][] are = {{0}, {1, 0}, {2, 0}, {3, 0}, {4, 1, 0}, {5, 2, 0}};
        for (int kind = 0; kind < 6; kind++) {
            x.wall(kind, 0, 0);
            x.set(kind, 4, 100 + kind);
            for (int asked = 0; asked < 6; asked++) {
                boolean is = false;
                for (int one : are[kind]) {
                    is |= one == asked;
                }
                Due.due("P7 kind " + kind + " as " + asked, x.as(kind, asked), is ? 100 + kind : Due.KIND);
            }
        }
        for (int bad : new int[] {-1, 6, MIN, MAX}) {
            Due.due("P7 kind " + bad, x.as(0, bad), Due.BEYOND);
            Due.due("P7 wall " + bad, x.as(bad, 0), Due.BEYOND);
        }
        Due.due("P7 KIND counted", x.status(2), 36 - 13);
    }

    private static void hears() {
        WallShifts x = new WallShifts();
        for (int kind = 0; kind < 6; kind++) {
            x.wall(kind, 0, 0);
        }
        for (int word = 0; word < 16; word++) {
            int other = word % 2 == 0 ? word + 1 : word - 1;
            Due.due("P8 wall", x.hears(0, word), word);
            Due.due("P8 north", x.hears(1, word), word);
            Due.due("P8 papered", x.hears(2, word), other);
            Due.due("P8 thin", x.hears(3, word), word);
            Due.due("P8 stone", x.hears(4, word), word < 4 ? Due.NONE : word);
            x.set(5, 5, 0);
            Due.due("P8 fresh tapestry", x.hears(5, word), word);
            x.set(5, 5, 1);
            Due.due("P8 tired tapestry", x.hears(5, word), other);
        }
        Due.due("P8 NONE counted", x.status(3), 4);
        for (int bad : new int[] {-1, 16, MIN, MAX}) {
            Due.due("P8 word " + bad, x.hears(0, bad), Due.BEYOND);
        }
        for (int bad : new int[] {-1, 6, 10, MIN, MAX}) {
            Due.due("P8 wall " + bad, x.hears(bad, 0), Due.BEYOND);
        }
        Due.due("P8 nothing is filed", x.count(2), 0);
    }
}
