/** Promises 16 to 24: where and when something can be said unheard. */
public final class UnheardTest {
    private static final int MIN = Integer.MIN_VALUE;
    private static final int MAX = Integer.MAX_VALUE;

    public static void main(String[] args) {
        safe();
        safeForLong();
        safeBetweenTheStrokes();
        where();
        quiet();
        worst();
        cover();
        shift();
        side();
        lost();
        best();
        atTheLastMinute();
        emptyPalace();
        Due.end("UnheardTest");
    }

    /** Walls of sides 0 to 3 about room 0. */
    private static WallShifts watched() {
        WallShifts x = new WallShifts();
        for (int side = 0; side < 4; side++) {
            x.wall(0, 0, 0);
            x.set(side, 3, side);
        }
        return x;
    }

    private static void safe() {
        WallShifts x = watched();
        Due.due("P16 now, at the change", x.safe(0, 1), 0);
        Due.due("P16 both minutes of it", x.safe(0, 2), 0);
        Due.due("P16 it has no third", x.safe(0, 3), Due.NONE);
        x.pass(1);
        Due.due("P16 one is left", x.safe(0, 1), 0);
        Due.due("P16 two at the next", x.safe(0, 2), 14);
        Due.due("P16 elsewhere", x.safe(1, 30), 0);
        x.set(0, 5, 99);
        x.set(1, 5, 99);
        Due.due("P16 sleepers count", x.safe(0, 3), Due.NONE);
        x.set(1, 3, 2);
        Due.due("P16 a quarter without", x.safe(0, 17), 14);
        Due.due("P16 no longer", x.safe(0, 18), Due.NONE);
        x.wall(3, 0, 1);
        x.set(4, 3, 1);
        Due.due("P16 heard through the thin one", x.safe(1, 3), Due.NONE);
        Due.due("P16 nothing changes", x.now(0), 1);
        for (int bad : new int[] {0, -1, 31, MIN, MAX}) {
            Due.due("P16 n " + bad, x.safe(0, bad), Due.BEYOND);
        }
        for (int bad : new int[] {-1, 10, MIN, MAX}) {
            Due.due("P16 room " + bad, x.safe(bad, 1), Due.BEYOND);
        }
    }

    /** With a shift of 60 and no change, walls of three sides leave one hour in four unheard. */
    private static void safeForLong() {
        WallShifts x = new WallShifts();
        x.rota(0, 60);
        x.rota(1, 0);
        for (int side = 0; side < 3; side++) {
            x.wall(0, 0, 0);
            x.set(side, 3, side);
        }
        Due.due("P16 the fourth hour", x.safe(0, 30), 180);
        x.pass(180);
        Due.due("P16 its first half hour", x.safe(0, 30), 0);
        x.pass(30);
        Due.due("P16 its last half hour", x.safe(0, 30), 0);
        x.pass(1);
        Due.due("P16 29 of it are left", x.safe(0, 29), 0);
        Due.due("P16 30 come again in 209 minutes", x.safe(0, 30), 209);
        x.wall(0, 0, 0);
        x.set(3, 3, 3);
        x.rota(1, 1);
        // From 211 on the change is at 240, 300, 360, 420, 480: 29, 89, 149, 209, 269.
        Due.due("P16 a change of a minute", x.safe(0, 1), 29);
    }

    /** A stone in winter hears the first minute of each quarter, and nothing else. */
    private static void safeBetweenTheStrokes() {
        WallShifts x = new WallShifts();
        x.wall(4, 0, 0);
        x.rota(0, 30);
        x.rota(2, 3);
        Due.due("P16 behind the stroke", x.safe(0, 1), 1);
        Due.due("P16 29 between the strokes", x.safe(0, 29), 1);
        Due.due("P16 never 30", x.safe(0, 30), Due.NONE);
        x.rota(0, 31);
        Due.due("P16 30 between strokes of 31", x.safe(0, 30), 1);
        x.pass(2);
        Due.due("P16 the next ones", x.safe(0, 30), 30);
    }

    private static void where() {
        WallShifts x = new WallShifts();
        x.pass(2);
        for (int room = 0; room < 9; room++) {
            x.wall(0, room, room + 1);
        }
        Due.due("P17 at the same time everywhere: the least", x.where(1), 0);
        x.set(0, 3, 1);
        x.set(1, 3, 1);
        Due.due("P17 rooms 0 and 1 are free now, the least", x.where(13), 0);
        x.wall(0, 0, 0);
        Due.due("P17 room 1", x.where(13), 1);
        Due.due("P17 for longer, the first quarter's rooms are free sooner", x.where(16), 3);
        Due.due("P17 as long as can be", x.where(30), 3);
        for (int bad : new int[] {0, -1, 31, MIN, MAX}) {
            Due.due("P17 n " + bad, x.where(bad), Due.BEYOND);
        }
        WallShifts full = watched();
        for (int room = 1; room < 7; room++) {
            full.wall(3, room - 1, room);
        }
        Due.due("P17 a free room", full.where(30), 7);
        full.rota(1, 0);
        full.set(4, 1, 7);
        full.set(4, 2, 0);
        full.set(5, 1, 8);
        full.set(5, 2, 7);
        full.set(6, 1, 9);
        full.set(6, 2, 8);
        Due.due("P17 room 1 has no wall any longer", full.where(30), 1);
        WallShifts chain = new WallShifts();
        chain.rota(1, 0);
        for (int room = 1; room < 10; room++) {
            chain.wall(3, room - 1, room);
            chain.set(room - 1, 3, room % 4);
        }
        Due.due("P17 nowhere", chain.where(1), Due.NONE);
        Due.due("P17 NONE counted", chain.status(3), 1);
        chain.rota(1, 1);
        Due.due("P17 everywhere for a minute", chain.where(1), 0);
        Due.due("P17 not for two", chain.where(2), Due.NONE);
    }

    private static void quiet() {
        WallShifts x = new WallShifts();
        Due.due("P18 nobody", x.quiet(0, 240), 240);
        x.wall(0, 0, 0);
        Due.due("P18 at the change", x.quiet(0, 1), 1);
        Due.due("P18 a quarter of 15", x.quiet(0, 15), 2);
        Due.due("P18 an hour", x.quiet(0, 60), 47);
        x.pass(2);
        Due.due("P18 from this minute on", x.quiet(0, 1), 0);
        Due.due("P18 13 of them", x.quiet(0, 13), 0);
        Due.due("P18 and one", x.quiet(0, 14), 1);
        x.set(0, 5, 50);
        Due.due("P18 asleep, it's on duty", x.quiet(0, 13), 0);
        for (int bad : new int[] {0, -1, 241, MIN, MAX}) {
            Due.due("P18 n " + bad, x.quiet(0, bad), Due.BEYOND);
        }
        for (int bad : new int[] {-1, 10, MIN, MAX}) {
            Due.due("P18 room " + bad, x.quiet(bad, 1), Due.BEYOND);
        }
    }

    private static void worst() {
        WallShifts x = watched();
        Due.due("P19 four alike: the least", x.worst(0, 60), 0);
        Due.due("P19 in the first minute nobody", x.worst(0, 1), Due.NONE);
        x.pass(15);
        Due.due("P19 in the second quarter", x.worst(0, 15), 1);
        x.wall(0, 0, 0);
        x.set(4, 3, 1);
        Due.due("P19 two at a time are no loss", x.worst(0, 15), Due.NONE);
        Due.due("P19 then the third", x.worst(0, 30), 2);
        x.turn(3, 5);
        Due.due("P19 a tapestry does two quarters", x.worst(0, 60), 2);
        x.turn(4, 3);
        x.set(4, 2, 5);
        Due.due("P19 were it never on duty it would leak still", x.worst(5, 30), 2);
        for (int bad : new int[] {0, -1, 241, MIN, MAX}) {
            Due.due("P19 n " + bad, x.worst(0, bad), Due.BEYOND);
        }
        for (int bad : new int[] {-1, 10, MIN, MAX}) {
            Due.due("P19 room " + bad, x.worst(bad, 1), Due.BEYOND);
        }
        Due.due("P19 most minutes", x.worst(0, 240), 2);
        WallShifts y = watched();
        y.pass(2);
        Due.due("P19 one minute more is more", y.worst(0, 1), 0);
        y.pass(12);
        Due.due("P19 this minute alone, the change behind it", y.worst(0, 3), 0);
        y.wall(0, 0, 0);
        Due.due("P19 both at once are no loss", y.worst(0, 3), Due.NONE);
        Due.due("P19 without this minute it's the next quarter", y.worst(0, 4), 1);
    }

    private static void cover() {
        WallShifts x = watched();
        Due.due("P20 not even all", x.cover(0, 60), Due.NONE);
        x.rota(1, 0);
        Due.due("P20 all four", x.cover(0, 60), 15);
        Due.due("P20 one for one quarter", x.cover(0, 15), 1);
        Due.due("P20 two for two", x.cover(0, 16), 3);
        x.wall(5, 0, 0);
        Due.due("P20 a tapestry of 0 for 0 and 1", x.cover(0, 30), 16);
        Due.due("P20 three for four", x.cover(0, 60), 4 | 8 | 16);
        x.wall(5, 0, 0);
        x.set(5, 3, 2);
        Due.due("P20 two tapestries", x.cover(0, 60), 16 | 32);
        x.wall(5, 0, 0);
        Due.due("P20 the least of as many", x.cover(0, 60), 16 | 32);
        x.set(4, 1, 9);
        x.set(4, 2, 9);
        Due.due("P20 the other tapestry", x.cover(0, 60), 32 | 64);
        Due.due("P20 one alone has not the room", x.cover(9, 1), 16);
        x.rota(1, 1);
        Due.due("P20 a change at 0", x.cover(0, 1), Due.NONE);
        x.pass(1);
        Due.due("P20 none at 1: the least of many", x.cover(0, 1), 1);
        for (int bad : new int[] {0, -1, 61, MIN, MAX}) {
            Due.due("P20 n " + bad, x.cover(0, bad), Due.BEYOND);
        }
        for (int bad : new int[] {-1, 10, MIN, MAX}) {
            Due.due("P20 room " + bad, x.cover(bad, 1), Due.BEYOND);
        }
    }

    private static void shift() {
        WallShifts x = new WallShifts();
        x.wall(0, 0, 0);
        x.rota(1, 0);
        Due.due("P21 any does for one minute", x.shift(0, 1), 1);
        Due.due("P21 two minutes want a shift of two", x.shift(0, 2), 2);
        Due.due("P21 the whole hour in one", x.shift(0, 60), 60);
        x.rota(1, 5);
        // A shift of 60 leaves 55 minutes of 60, and a shorter one no more.
        Due.due("P21 behind a change of five", x.shift(0, 60), 60);
        x.set(0, 3, 1);
        x.pass(20);
        // From 20 to 39: with 20 they are quarter 1, of which 5 are the change's; with 15 it ends at 29.
        Due.due("P21 as the minutes lie", x.shift(0, 10), 15);
        x.rota(1, 60);
        Due.due("P21 all are alike at a change of 60", x.shift(0, 60), 1);
        Due.due("P21 the shift stays", x.now(1), 15);
        for (int bad : new int[] {0, -1, 61, MIN, MAX}) {
            Due.due("P21 n " + bad, x.shift(0, bad), Due.BEYOND);
        }
        for (int bad : new int[] {-1, 10, MIN, MAX}) {
            Due.due("P21 room " + bad, x.shift(bad, 1), Due.BEYOND);
        }
    }

    private static void side() {
        WallShifts x = watched();
        x.set(0, 4, 99);
        for (int wall = 0; wall < 4; wall++) {
            Due.due("P22 as it is", x.side(wall, 0, 60), wall);
        }
        x.set(3, 3, 0);
        Due.due("P22 the one that's missing", x.side(0, 0, 60), 3);
        Due.due("P22 the one that's missing, for 3", x.side(3, 0, 60), 3);
        Due.due("P22 for 1, which is needed", x.side(1, 0, 60), 1);
        Due.due("P22 in the first quarter any does", x.side(1, 0, 15), 0);
        Due.due("P22 of another room", x.side(3, 7, 240), 0);
        x.pass(2);
        Due.due("P22 one minute", x.side(0, 0, 1), 0);
        Due.due("P22 one minute alone decides", x.side(2, 0, 1), 0);
        x.set(0, 3, 1);
        x.set(3, 3, 1);
        x.set(2, 3, 1);
        Due.due("P22 nobody else is on", x.side(2, 0, 1), 0);
        x.set(0, 3, 0);
        x.set(3, 3, 0);
        x.set(2, 3, 2);
        Due.due("P22 the side stays", x.of(3, 3), 0);
        Due.due("P22 the file stays", x.of(0, 4), 99);
        x.turn(3, 5);
        Due.due("P22 a tapestry of 2 is on in 2 and 3, one of 3 in 3 and 0", x.side(3, 0, 60), 2);
        for (int bad : new int[] {0, -1, 241, MIN, MAX}) {
            Due.due("P22 n " + bad, x.side(0, 0, bad), Due.BEYOND);
        }
        for (int bad : new int[] {-1, 10, MIN, MAX}) {
            Due.due("P22 room " + bad, x.side(0, bad, 1), Due.BEYOND);
        }
        for (int bad : new int[] {-1, 4, 10, MIN, MAX}) {
            Due.due("P22 wall " + bad, x.side(bad, 0, 1), Due.BEYOND);
        }
    }

    private static void lost() {
        WallShifts x = new WallShifts();
        x.wall(0, 0, 0);
        // Words 0 and 1 in the change, then five till it sleeps.
        Due.due("P23 two are lost, five are not", x.lost(0, 65535), 65535 & ~(31 << 2));
        Due.due("P23 of a set", x.lost(0, 0b1010_1010_0000), 0b0000_1010_0000);
        Due.due("P23 nothing of nothing", x.lost(0, 0), 0);
        Due.due("P23 all elsewhere", x.lost(1, 77), 77);
        Due.due("P23 nothing changes", x.now(0) + x.now(5) + x.now(6) + x.of(0, 4), 0);
        x.pass(2);
        x.turn(0, 4);
        Due.due("P23 stone never tires, but hears nothing below 4", x.lost(0, 65535 & ~7), 8);
        x.rota(1, 0);
        x.set(0, 3, 1);
        Due.due("P23 the quarter begins at 15", x.lost(0, 65535), (1 << 13) - 1);
        for (int bad : new int[] {-1, 65536, MIN, MAX}) {
            Due.due("P23 words " + bad, x.lost(0, bad), Due.BEYOND);
        }
        for (int bad : new int[] {-1, 10, MIN, MAX}) {
            Due.due("P23 room " + bad, x.lost(bad, 1), Due.BEYOND);
        }
        restAndHearAgain();
    }

    /** A wall that sleeps rests as its quarter begins, and hears again. */
    private static void restAndHearAgain() {
        WallShifts x = new WallShifts();
        x.wall(0, 0, 0);
        x.wall(0, 0, 0);
        x.set(1, 3, 1);
        x.set(1, 5, 99);
        x.rota(0, 2);
        x.rota(1, 0);
        x.rota(3, 1);
        // Heard at 0; asleep at 1; at 2 the second, rested, hears; at 3 it sleeps; 4 to 7 nobody is on.
        Due.due("P23 in the minutes 0 to 7", x.lost(0, 255), 255 & ~(1 | 4));
        Due.due("P23 tired as before", x.now(6), 99);
        Due.due("P24 rooms without a wall", x.best(255), 1);
    }

    private static void best() {
        WallShifts x = new WallShifts();
        for (int room = 0; room < 9; room++) {
            x.wall(0, room, room);
        }
        Due.due("P24 the room without a wall", x.best(65535), 9);
        Due.due("P24 two words in the change: all alike", x.best(3), 0);
        x.wall(4, 9, 9);
        x.pass(2);
        Due.due("P24 stone hears nothing of low words", x.best(15), 9);
        Due.due("P24 the others sleep after five", x.best(65535), 0);
        x.set(3, 5, 4);
        Due.due("P24 one is nearly asleep", x.best(65535), 3);
        x.set(5, 3, 2);
        Due.due("P24 one is off duty", x.best(31), 5);
        Due.due("P24 nothing changes", x.now(5), 0);
        Due.due("P24 no minute goes", x.now(0), 2);
        Due.due("P24 an empty set", x.best(0), 0);
        for (int bad : new int[] {-1, 65536, MIN, MAX}) {
            Due.due("P24 words " + bad, x.best(bad), Due.BEYOND);
        }
    }

    /** Looking ahead goes on behind the last minute, as it changes nothing. */
    private static void atTheLastMinute() {
        WallShifts x = new WallShifts();
        x.wall(0, 0, 0);
        x.set(0, 3, 2);
        Due.passTo(x, 99999);
        // 99990 begins a third quarter: 99999 is heard, to 100004; the change is at 100005.
        Due.due("P18 five more are heard", x.quiet(0, 6), 0);
        Due.due("P18 the next is not", x.quiet(0, 7), 1);
        Due.due("P16 safe behind the last minute", x.safe(0, 30), 6);
        Due.due("P20 one covers six", x.cover(0, 6), 1);
        Due.due("P20 not seven", x.cover(0, 7), Due.NONE);
        Due.due("P19 it is the worst", x.worst(0, 240), 0);
        Due.due("P23 words behind the last minute", x.lost(0, 127), 64 | 32);
        Due.due("P24 elsewhere", x.best(127), 1);
        Due.due("P22 its side", x.side(0, 0, 6), 2);
        Due.due("P17 where", x.where(30), 1);
        Due.due("P10 it stays", x.now(0), 99999);
    }

    private static void emptyPalace() {
        WallShifts x = new WallShifts();
        Due.due("P16 empty", x.safe(9, 30), 0);
        Due.due("P17 empty", x.where(30), 0);
        Due.due("P18 empty", x.quiet(9, 240), 240);
        Due.due("P19 empty", x.worst(9, 240), Due.NONE);
        Due.due("P20 empty", x.cover(9, 60), Due.NONE);
        Due.due("P21 empty", x.shift(9, 60), 1);
        Due.due("P22 empty", x.side(0, 9, 240), Due.BEYOND);
        Due.due("P23 empty", x.lost(9, 65535), 65535);
        Due.due("P24 empty", x.best(65535), 0);
    }
}
