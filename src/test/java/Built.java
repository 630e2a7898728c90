/** Palaces to ask. An object is promised for 512 calls: late() alone takes 418 of them. */
final class Built {
    static final int WALL = 0;
    static final int NORTH = 1;
    static final int PAPERED = 2;
    static final int THIN = 3;
    static final int STONE = 4;
    static final int TAPESTRY = 5;
    static final int WINTER = 3;

    private Built() {
    }

    static WallShifts empty() {
        return new WallShifts();
    }

    /** A wall of each kind told, of side 0, about room 0. */
    static WallShifts of(int... kinds) {
        WallShifts x = new WallShifts();
        for (int kind : kinds) {
            x.wall(kind, 0, 0);
        }
        return x;
    }

    /** As of(), with no change: all are on duty at minute 0 already. */
    static WallShifts heard(int... kinds) {
        WallShifts x = of(kinds);
        x.rota(1, 0);
        return x;
    }

    /** A plain wall about room 0 for each side told. */
    static WallShifts sides(int... sides) {
        WallShifts x = new WallShifts();
        for (int i = 0; i < sides.length; i++) {
            x.wall(WALL, 0, 0);
            x.set(i, 3, sides[i]);
        }
        return x;
    }

    /** Ten walls, which is all that there may be. */
    static WallShifts full() {
        return of(WALL, NORTH, PAPERED, THIN, STONE, TAPESTRY, WALL, WALL, WALL, WALL);
    }

    /** Something of all that an object holds, nothing as it is at first. */
    static WallShifts rich() {
        WallShifts x = new WallShifts();
        x.wall(THIN, 0, 1);
        x.wall(WALL, 2, 9);
        x.wall(TAPESTRY, 0, 0);
        x.rota(0, 20);
        x.rota(1, 1);
        x.rota(2, 1);
        x.rota(3, 6);
        x.set(1, 3, 2);
        x.set(0, 4, 0x8421);
        x.image();
        x.pass(7);
        x.set(0, 5, 3);
        x.set(1, 4, 7);
        x.set(2, 5, 6);
        x.sheet(0, 8, 3);
        x.write(0, 1, 100);
        x.sheet(1, 16, 2);
        x.write(1, 0, 1000);
        x.sheet(2, 64, 1);
        x.write(2, 0, 1L << 40);
        Due.feed(x, "shift 9;wall of 8 side 3");
        return x;
    }

    /** Two walls on duty at minute 99999, which it is: nothing can go on. */
    static WallShifts late() {
        WallShifts x = sides(2, 2);
        Due.passTo(x, 99999);
        return x;
    }

    /** Whether one of a kind and a side is on duty in a minute. */
    static boolean isOn(int kind, int side, int shift, int change, int season, int minute) {
        WallShifts x = of(kind);
        x.set(0, 3, side);
        x.rota(0, shift);
        x.rota(1, change);
        x.rota(2, season);
        return x.duty(minute) == 1;
    }
}
