/** Promises 34 to 38: images, counts, and the findings counted. */
public final class ImagesTest {
    private static final int MIN = Integer.MIN_VALUE;
    private static final int MAX = Integer.MAX_VALUE;

    public static void main(String[] args) {
        imageKeepsAll();
        imageKeepsNoTapeNorSheet();
        undo();
        tear();
        count();
        status();
        statusAfterUndo();
        Due.end("ImagesTest");
    }

    private static WallShifts lived() {
        WallShifts x = new WallShifts();
        x.wall(3, 1, 2);
        x.wall(5, 2, 2);
        x.set(1, 3, 3);
        x.set(0, 4, 7);
        x.set(1, 5, 9);
        x.rota(0, 20);
        x.rota(1, 4);
        x.rota(2, 1);
        x.rota(3, 6);
        x.pass(11);
        return x;
    }

    private static void isAsLived(String what, WallShifts x) {
        long[] now = {11, 20, 4, 1, 6, 7, 9};
        for (int i = 0; i < now.length; i++) {
            Due.due(what + ", now " + i, x.now(i), now[i]);
        }
        long[][] walls = {{3, 1, 2, 0, 7, 0}, {5, 2, 2, 3, 0, 9}};
        Due.due(what + ", walls", x.count(0), 2);
        for (int wall = 0; wall < 2; wall++) {
            for (int part = 0; part < 6; part++) {
                Due.due(what + ", part " + part, x.of(wall, part), walls[wall][part]);
            }
        }
    }

    private static void upset(WallShifts x) {
        for (int wall = 0; wall < 2; wall++) {
            x.turn(wall, 0);
            for (int part = 1; part <= 5; part++) {
                x.set(wall, part, 1);
            }
        }
        for (int what = 0; what <= 3; what++) {
            x.rota(what, 3);
        }
        x.wall(5, 9, 9);
        for (int part = 3; part <= 5; part++) {
            x.set(2, part, 3);
        }
        x.pass(9);
    }

    private static void imageKeepsAll() {
        WallShifts x = lived();
        isAsLived("P34 as it is", x);
        Due.due("P34 kept", x.image(), 1);
        isAsLived("P34 an image changes nothing", x);
        upset(x);
        Due.due("P35 back", x.undo(), 2);
        isAsLived("P35 as it was", x);
        upset(x);
        Due.due("P35 the image stays", x.undo(), 2);
        isAsLived("P35 as it was again", x);
        Due.due("P35 a new wall has nothing of one that's gone", x.wall(1, 8, 7), 2);
        long[] wall = {1, 8, 7, 0, 0, 0};
        for (int part = 0; part < 6; part++) {
            Due.due("P35 part " + part, x.of(2, part), wall[part]);
        }
    }

    private static void imageKeepsNoTapeNorSheet() {
        WallShifts x = lived();
        x.image();
        Due.feed(x, "shift 9");
        x.sheet(0, 8, 3);
        x.write(0, 1, 5);
        x.undo();
        Due.due("P34 the tape isn't kept", x.count(1), 7);
        Due.due("P34 nor a sheet", x.write(0, 1, 6), 5);
        x.image();
        x.wipe();
        x.sheet(0, 0, 0);
        x.undo();
        Due.due("P35 the tape stays empty", x.count(1), 0);
        Due.due("P35 the sheet stays missing", x.write(0, 1, 6), Due.MISSING);
    }

    private static void undo() {
        WallShifts x = new WallShifts();
        Due.due("P35 nothing is kept", x.undo(), Due.NONE);
        Due.due("P35 counted", x.status(3), 1);
        x.image();
        x.wall(0, 0, 0);
        x.image();
        x.wall(0, 0, 0);
        x.wall(0, 0, 0);
        Due.due("P35 the latest", x.undo(), 1);
        Due.due("P35 the latest again", x.undo(), 1);
        for (int i = 1; i < 10; i++) {
            x.wall(0, 0, 0);
        }
        x.image();
        x.undo();
        Due.due("P35 ten", x.undo(), 10);
        Due.due("P35 full", x.wall(0, 0, 0), Due.FULL);
    }

    private static void tear() {
        WallShifts x = new WallShifts();
        Due.due("P36 nothing was", x.tear(), 0);
        x.wall(0, 0, 0);
        x.image();
        x.image();
        x.wall(0, 0, 0);
        Due.due("P36 something was", x.tear(), 1);
        Due.due("P36 nothing is left", x.tear(), 0);
        Due.due("P36 nothing to go back to", x.undo(), Due.NONE);
        Due.due("P36 the palace stays", x.count(0), 2);
        x.image();
        Due.due("P36 kept anew", x.undo(), 2);
    }

    private static void count() {
        WallShifts x = new WallShifts();
        for (int i = 0; i < 10; i++) {
            x.wall(i % 6, 0, 0);
            x.set(i, 4, i);
            x.set(i, 5, i);
            Due.due("P37 walls", x.count(0), i + 1);
        }
        Due.due("P37 words of the files 0 to 9", x.count(2), 15);
        Due.due("P37 awake are those below five", x.count(3), 5);
        x.rota(3, 20);
        Due.due("P37 all are awake", x.count(3), 10);
        x.set(0, 5, 20);
        Due.due("P37 but one", x.count(3), 9);
        Due.feed(x, "abc");
        Due.due("P37 bytes", x.count(1), 3);
        for (int i = 0; i < 10; i++) {
            x.set(i, 4, 65535);
        }
        Due.due("P37 all words in all files", x.count(2), 160);
        for (int bad : new int[] {-1, 4, MIN, MAX}) {
            Due.due("P37 what " + bad, x.count(bad), Due.BEYOND);
        }
    }

    private static void status() {
        WallShifts x = new WallShifts();
        for (int which = -1; which <= 6; which++) {
            Due.due("P38 none yet " + which, x.status(which), 0);
        }
        x.now(9);
        for (int i = 0; i < 10; i++) {
            x.wall(0, 0, 0);
        }
        x.wall(0, 0, 0);
        x.wall(0, 0, 0);
        x.as(0, 1);
        x.as(0, 2);
        x.as(0, 3);
        for (int i = 0; i < 4; i++) {
            x.undo();
        }
        for (int i = 0; i < 6; i++) {
            x.lays(0);
        }
        for (int i = 0; i < 7; i++) {
            x.sheet(0, 0, -1);
        }
        long[] all = {1, 2, 3, 4, 0, 6, 7};
        for (int which = 0; which <= 6; which++) {
            Due.due("P38 which " + which, x.status(which), all[which]);
        }
        Due.due("P38 all", x.status(-1), 23);
        Due.due("P38 -2", x.status(-2), Due.BEYOND);
        Due.due("P38 counted from then on", x.status(0), 2);
        Due.due("P38 7", x.status(7), Due.BEYOND);
        Due.due("P38 least", x.status(MIN), Due.BEYOND);
        Due.due("P38 greatest", x.status(MAX), Due.BEYOND);
        Due.due("P38 five", x.status(0), 5);
        Due.due("P38 all", x.status(-1), 27);
        Due.passTo(x, 99999);
        x.pass(1);
        Due.due("P38 STATE", x.status(4), 1);
    }

    private static void statusAfterUndo() {
        WallShifts x = new WallShifts();
        x.image();
        x.now(9);
        x.filed(16);
        x.undo();
        Due.due("P38 undo takes none back", x.status(0), 2);
        x.tear();
        Due.due("P38 nor does tear", x.status(-1), 2);
    }
}
