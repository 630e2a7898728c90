/** Promises 9 to 15: what is said, the minutes, reach, duty, and what is filed. */
public final class SaidTest {
    private static final int MIN = Integer.MIN_VALUE;
    private static final int MAX = Integer.MAX_VALUE;

    public static void main(String[] args) {
        say();
        sayOnlyToTheAwake();
        sayMishears();
        sayTires();
        pass();
        passRests();
        speak();
        speakAtTheEnd();
        reach();
        dutyInSummer();
        dutyInWinter();
        dutyEdges();
        now();
        filed();
        Due.end("SaidTest");
    }

    /** A palace in which all of side 0 are on duty at minute 0. */
    private static WallShifts listening() {
        WallShifts x = new WallShifts();
        x.rota(1, 0);
        return x;
    }

    private static void say() {
        WallShifts x = listening();
        Due.due("P9 nobody there", x.say(0, 5), 0);
        x.wall(0, 0, 1);
        x.wall(0, 1, 2);
        x.wall(3, 2, 3);
        x.wall(0, 3, 3);
        x.wall(0, 3, 3);
        x.set(4, 3, 1);
        Due.due("P9 both rooms of a wall", x.say(1, 5), 3);
        Due.due("P9 through the thin one", x.say(2, 6), 2 | 4 | 8);
        Due.due("P9 from behind the thin one", x.say(3, 7), 2 | 4 | 8);
        Due.due("P9 no wall here", x.say(9, 8), 0);
        Due.due("P9 file 0", x.of(0, 4), 1 << 5);
        Due.due("P9 file 1", x.of(1, 4), 1 << 5 | 1 << 6 | 1 << 7);
        Due.due("P9 file 3", x.of(3, 4), 1 << 6 | 1 << 7);
        Due.due("P9 not on duty, nothing filed", x.of(4, 4), 0);
        Due.due("P9 no minute goes", x.now(0), 0);
        x.set(2, 3, 1);
        x.set(2, 5, 99);
        Due.due("P9 thin leaks though off duty and asleep", x.say(2, 0), 2 | 8);
        for (int bad : new int[] {-1, 10, MIN, MAX}) {
            Due.due("P9 room " + bad, x.say(bad, 0), Due.BEYOND);
        }
        for (int bad : new int[] {-1, 16, MIN, MAX}) {
            Due.due("P9 word " + bad, x.say(0, bad), Due.BEYOND);
        }
        Due.due("P9 words 0 and 15 may be said", x.say(0, 0) + x.say(0, 15), 2);
    }

    private static void sayOnlyToTheAwake() {
        WallShifts x = listening();
        x.wall(0, 0, 0);
        x.rota(3, 2);
        Due.due("P9 fresh", x.say(0, 1), 1);
        Due.due("P9 once tired", x.say(0, 2), 1);
        Due.due("P9 asleep", x.say(0, 3), 0);
        Due.due("P9 the third isn't filed", x.of(0, 4), 6);
        Due.due("P9 nor does it tire", x.of(0, 5), 2);
    }

    private static void sayMishears() {
        WallShifts x = listening();
        x.wall(2, 0, 0);
        x.wall(4, 0, 0);
        x.wall(5, 0, 0);
        Due.due("P9 stone hears nothing of low words", x.say(0, 3), 5);
        Due.due("P9 papered files 2", x.of(0, 4), 1 << 2);
        Due.due("P9 stone files nothing", x.of(1, 4), 0);
        Due.due("P9 fresh tapestry files 3", x.of(2, 4), 1 << 3);
        Due.due("P9 stone hears from 4 on", x.say(0, 4), 7);
        Due.due("P9 papered files 5", x.of(0, 4), 1 << 2 | 1 << 5);
        Due.due("P9 stone files 4", x.of(1, 4), 1 << 4);
        Due.due("P9 tired tapestry files 5", x.of(2, 4), 1 << 3 | 1 << 5);
    }

    private static void sayTires() {
        int[] tires = {1, 1, 1, 2, 0, 2};
        for (int kind = 0; kind < 6; kind++) {
            WallShifts x = listening();
            x.wall(kind, 0, 0);
            x.say(0, 9);
            Due.due("P9 tired once, kind " + kind, x.of(0, 5), tires[kind]);
            x.say(0, 9);
            Due.due("P9 tired twice, kind " + kind, x.of(0, 5), 2 * tires[kind]);
        }
        WallShifts y = listening();
        y.wall(3, 0, 0);
        y.rota(3, 20);
        y.set(0, 5, 19);
        Due.due("P9 just awake", y.say(0, 9), 1);
        Due.due("P9 twenty-one now", y.of(0, 5), 21);
    }

    private static void pass() {
        WallShifts x = new WallShifts();
        Due.due("P10 least", x.pass(1), 1);
        Due.due("P10 most", x.pass(240), 241);
        for (int bad : new int[] {0, -1, 241, MIN, MAX}) {
            Due.due("P10 n " + bad, x.pass(bad), Due.BEYOND);
        }
        Due.passTo(x, 99998);
        Due.due("P10 two are too many", x.pass(2), Due.STATE);
        Due.due("P10 BEYOND is asked ahead of STATE", x.pass(241), Due.BEYOND);
        Due.due("P10 it stays", x.now(0), 99998);
        Due.due("P10 the last", x.pass(1), 99999);
        Due.due("P10 none is left", x.pass(1), Due.STATE);
        Due.due("P10 nor 240", x.pass(240), Due.STATE);
        Due.due("P10 STATE counted", x.status(4), 3);
    }

    private static void passRests() {
        WallShifts x = new WallShifts();
        for (int side = 0; side < 4; side++) {
            x.wall(side, 0, 0);
            x.set(side, 3, side);
            x.set(side, 5, 10 + side);
        }
        x.pass(14);
        Due.due("P10 none rests before the quarter", x.now(6), 46);
        x.pass(1);
        Due.due("P10 side 1 rests at 15", x.of(1, 5), 0);
        Due.due("P10 the others don't", x.now(6), 35);
        x.pass(15);
        Due.due("P10 side 2 rests at 30", x.of(2, 5), 0);
        x.pass(29);
        Due.due("P10 side 3 rests at 45, 0 not yet at 59", x.now(6), 10);
        x.pass(1);
        Due.due("P10 side 0 rests at 60", x.now(6), 0);
        x.rota(0, 1);
        x.set(0, 5, 7);
        x.set(1, 5, 7);
        x.pass(3);
        Due.due("P10 each minute is a quarter: 61, 62, 63", x.of(1, 5), 0);
        Due.due("P10 but not 0", x.of(0, 5), 7);
        x.pass(1);
        Due.due("P10 till 64", x.of(0, 5), 0);
    }

    private static void speak() {
        WallShifts x = new WallShifts();
        Due.due("P11 an empty set", x.speak(0, 0), 0);
        Due.due("P11 in no minute", x.now(0), 0);
        x.wall(0, 0, 0);
        x.wall(2, 0, 0);
        x.rota(1, 0);
        Due.due("P11 two hear three words", x.speak(0, 1 | 4 | 8), 6);
        Due.due("P11 three minutes", x.now(0), 3);
        Due.due("P11 wall", x.of(0, 4), 1 | 4 | 8);
        Due.due("P11 papered", x.of(1, 4), 2 | 8 | 4);
        Due.due("P11 they hear two more till they sleep", x.speak(0, 65535), 4);
        Due.due("P11 at 19", x.now(0), 19);
        for (int bad : new int[] {-1, 65536, MIN, MAX}) {
            Due.due("P11 words " + bad, x.speak(0, bad), Due.BEYOND);
        }
        for (int bad : new int[] {-1, 10, MIN, MAX}) {
            Due.due("P11 room " + bad, x.speak(bad, 1), Due.BEYOND);
        }
        Due.due("P11 findings let no minute go", x.now(0), 19);
        speakAcrossTheQuarter();
    }

    private static void speakAcrossTheQuarter() {
        WallShifts x = new WallShifts();
        x.wall(0, 0, 0);
        x.wall(0, 0, 0);
        x.set(1, 3, 1);
        x.pass(13);
        // Words 0 to 3 in the minutes 13, 14, 15 (the change) and 16 (the change), 4 to 6 in 17 to 19.
        Due.due("P11 over the change", x.speak(0, 127), 5);
        Due.due("P11 the first two", x.of(0, 4), 3);
        Due.due("P11 the last three", x.of(1, 4), 16 | 32 | 64);
        Due.due("P11 at 20", x.now(0), 20);
    }

    private static void speakAtTheEnd() {
        WallShifts x = new WallShifts();
        Due.passTo(x, 99997);
        Due.due("P11 three words are too many", x.speak(0, 7), Due.STATE);
        Due.due("P11 it stays", x.now(0), 99997);
        Due.due("P11 two aren't", x.speak(0, 1 << 15 | 1), 0);
        Due.due("P11 the last minute", x.now(0), 99999);
        Due.due("P11 one is too many now", x.speak(0, 1), Due.STATE);
        Due.due("P11 none isn't", x.speak(0, 0), 0);
        Due.due("P11 BEYOND is asked ahead of STATE", x.speak(10, 1), Due.BEYOND);
        Due.due("P9 a word can be said at 99999", x.say(0, 1), 0);
    }

    private static void reach() {
        WallShifts x = new WallShifts();
        for (int room = 0; room < 10; room++) {
            Due.due("P12 its own", x.reach(room), 1 << room);
        }
        x.wall(3, 8, 9);
        x.wall(3, 7, 8);
        x.wall(3, 7, 6);
        x.wall(3, 0, 0);
        Due.due("P12 on and on", x.reach(6), 1 << 6 | 1 << 7 | 1 << 8 | 1 << 9);
        Due.due("P12 the other way", x.reach(9), 1 << 6 | 1 << 7 | 1 << 8 | 1 << 9);
        Due.due("P12 between one room", x.reach(0), 1);
        for (int kind : new int[] {0, 1, 2, 4, 5}) {
            x.turn(1, kind);
            Due.due("P12 not through kind " + kind, x.reach(9), 1 << 8 | 1 << 9);
        }
        for (int bad : new int[] {-1, 10, MIN, MAX}) {
            Due.due("P12 room " + bad, x.reach(bad), Due.BEYOND);
        }
        WallShifts chain = new WallShifts();
        for (int room = 9; room > 0; room--) {
            chain.wall(3, room, room - 1);
        }
        Due.due("P12 through nine walls", chain.reach(9), 1023);
        Due.due("P12 through nine walls back", chain.reach(0), 1023);
        chain.wall(3, 0, 9);
        Due.due("P12 a ring", chain.reach(4), 1023);
    }

    private static void dutyInSummer() {
        WallShifts x = new WallShifts();
        for (int kind = 0; kind < 6; kind++) {
            x.wall(kind, 0, 0);
            x.set(kind, 3, 3);
        }
        for (int season = 0; season < 3; season++) {
            x.rota(2, season);
            Due.due("P13 none in the last minute before", x.duty(44), 0);
            Due.due("P13 none at the change", x.duty(45), 0);
            Due.due("P13 none in its last minute", x.duty(46), 0);
            Due.due("P13 all behind it", x.duty(47), 63);
            Due.due("P13 all to the end", x.duty(59), 63);
            Due.due("P13 the change again", x.duty(60), 0);
            Due.due("P13 the tapestry stays on, round by four", x.duty(62), 32);
            Due.due("P13 till its end", x.duty(74), 32);
            Due.due("P13 then it's off", x.duty(77), 0);
            Due.due("P13 an hour on", x.duty(119), 63);
        }
        x.set(5, 3, 1);
        Due.due("P13 a tapestry of 1 in quarter 1", x.duty(20), 32);
        Due.due("P13 in quarter 2", x.duty(35), 32);
        Due.due("P13 in quarter 0", x.duty(5), 0);
        x.rota(1, 15);
        Due.due("P13 a change as long as the shift", x.duty(50), 0);
        x.rota(1, 14);
        Due.due("P13 one minute of each", x.duty(59), 31);
    }

    private static void dutyInWinter() {
        WallShifts x = new WallShifts();
        for (int kind = 0; kind < 6; kind++) {
            x.wall(kind, 0, 0);
        }
        x.rota(2, 3);
        Due.due("P13 winter: no north, no stone", x.duty(2), 1 | 4 | 8 | 32);
        Due.due("P13 winter: stone at the change", x.duty(0), 16);
        Due.due("P13 winter: not behind its first minute", x.duty(1), 0);
        Due.due("P13 winter: stone of side 0 at 15", x.duty(15), 16);
        Due.due("P13 winter: and at 45", x.duty(45), 16);
        x.rota(1, 0);
        Due.due("P13 winter: no north without a change", x.duty(0), 1 | 4 | 8 | 16 | 32);
        x.rota(2, 2);
        Due.due("P13 autumn: stone isn't at 15", x.duty(15), 32);
    }

    private static void dutyEdges() {
        WallShifts x = new WallShifts();
        Due.due("P13 no walls", x.duty(5), 0);
        Due.due("P13 the last minute", x.duty(99999), 0);
        for (int i = 0; i < 10; i++) {
            x.wall(0, i, i);
            x.set(i, 3, 2);
        }
        // 99999 is 6666 quarters and 9 minutes; 6666 leaves 2 by 4.
        Due.due("P13 ten in the last minute", x.duty(99999), 1023);
        for (int bad : new int[] {-1, 100000, MIN, MAX}) {
            Due.due("P13 minute " + bad, x.duty(bad), Due.BEYOND);
        }
    }

    private static void now() {
        WallShifts x = listening();
        x.wall(0, 0, 0);
        x.wall(2, 0, 0);
        x.rota(0, 30);
        x.rota(2, 1);
        x.rota(3, 8);
        x.pass(7);
        x.say(0, 4);
        x.set(0, 5, 99);
        long[] all = {7, 30, 0, 1, 8, 1 << 4 | 1 << 5, 100};
        for (int what = 0; what < all.length; what++) {
            Due.due("P14 what " + what, x.now(what), all[what]);
        }
        for (int bad : new int[] {-1, 7, MIN, MAX}) {
            Due.due("P14 what " + bad, x.now(bad), Due.BEYOND);
        }
    }

    private static void filed() {
        WallShifts x = new WallShifts();
        for (int i = 0; i < 10; i++) {
            x.wall(i % 6, 0, 0);
            x.set(i, 4, (1 << i) - 1 | 1 << 15);
        }
        for (int word = 0; word < 15; word++) {
            Due.due("P15 word " + word, x.filed(word), Math.max(0, 9 - word));
        }
        Due.due("P15 word 15", x.filed(15), 10);
        for (int bad : new int[] {-1, 16, MIN, MAX}) {
            Due.due("P15 word " + bad, x.filed(bad), Due.BEYOND);
        }
    }
}
