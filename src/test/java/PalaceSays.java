/** Promises 1 to 8, sentence by sentence: a new object, the rota, and walls. */
final class PalaceSays {
    private PalaceSays() {
    }

    // ---- promise 1

    @Says(in = 1, value = "No WALLS;")
    static void newHasNoWalls() {
        WallShifts x = new WallShifts();
        Due.due("walls", x.count(0), 0);
        Due.due("the first", x.of(0, 0), Due.BEYOND);
        for (int t = 0; t < 60; t++) {
            Due.due("on duty in " + t, x.duty(t), 0);
        }
        Due.due("the first that's built", x.wall(0, 0, 0), 0);
    }

    @Says(in = 1, value = "THE TAPE is empty,")
    static void newHasAnEmptyTape() {
        Due.due("bytes", new WallShifts().count(1), 0);
        Due.due("wiped", new WallShifts().wipe(), 0);
        Due.due("told", new WallShifts().palace(), -1);
        Due.due("fed", new WallShifts().feed('x', 1), 1);
    }

    @Says(in = 1, value = "no image is kept.")
    static void newKeepsNoImage() {
        Due.due("undo", new WallShifts().undo(), Due.NONE);
        Due.due("tear", new WallShifts().tear(), 0);
    }

    @Says(in = 1, value = "No WALLS; THE TAPE is empty, no image is kept.")
    static void newHasNothingOfAnother() {
        WallShifts other = Built.rich();
        WallShifts x = new WallShifts();
        long[] now = {0, 15, 2, 0, 5, 0, 0};
        for (int what = 0; what < now.length; what++) {
            Due.due("now " + what, x.now(what), now[what]);
        }
        Due.due("no walls", x.count(0), 0);
        Due.due("no bytes", x.count(1), 0);
        Due.due("no image", x.tear(), 0);
        Due.due("no sheet", x.lays(0), Due.MISSING);
        Edges.same("in a rich one beside a new one", other, Built.rich());
    }

    // ---- promise 2

    @Says(in = 2, value = "SHIFT (what 0), CHANGE (1), SEASON (2), COURAGE (3) becomes v: what it was.")
    static void rotaTellsWhatItWas() {
        int[] first = {15, 2, 0, 5};
        for (int what = 0; what <= 3; what++) {
            WallShifts x = new WallShifts();
            Due.due("it was, " + what, x.rota(what, 3), first[what]);
            Due.due("it was 3, " + what, x.rota(what, 1), 3);
            for (int one = 0; one <= 3; one++) {
                Due.due("it alone becomes 1, " + one, x.now(1 + one), one == what ? 1 : first[one]);
            }
        }
    }

    @Says(in = 2, value = "BEYOND.")
    static void rotaBeyondWhat() {
        Edges.range(Built::rich, 0, 3, (x, v) -> x.rota(v, 1));
    }

    @Says(in = 2, value = "BEYOND.")
    static void rotaBeyondShift() {
        Edges.range(Built::rich, 1, 60, (x, v) -> x.rota(0, v));
    }

    @Says(in = 2, value = "BEYOND.")
    static void rotaBeyondChange() {
        Edges.range(Built::rich, 0, 60, (x, v) -> x.rota(1, v));
    }

    @Says(in = 2, value = "BEYOND.")
    static void rotaBeyondSeason() {
        Edges.range(Built::rich, 0, 3, (x, v) -> x.rota(2, v));
    }

    @Says(in = 2, value = "BEYOND.")
    static void rotaBeyondCourage() {
        Edges.range(Built::rich, 1, 20, (x, v) -> x.rota(3, v));
    }

    // ---- promise 3

    @Says(in = 3, value = "A new WALL between two ROOMS: its number.")
    static void wallTellsItsNumber() {
        WallShifts x = new WallShifts();
        for (int i = 0; i < 10; i++) {
            Due.due("the number", x.wall(i % 6, i, 9 - i), i);
            Due.due("its kind", x.of(i, 0), i % 6);
            Due.due("its room", x.of(i, 1), i);
            Due.due("the other", x.of(i, 2), 9 - i);
        }
    }

    @Says(in = 3, value = "A new WALL between two ROOMS: its number.")
    static void wallTakesTheNumberThatUndoFrees() {
        WallShifts x = Built.of(0, 0);
        x.image();
        x.wall(5, 7, 8);
        for (int what = 3; what <= 5; what++) {
            x.set(2, what, 3);
        }
        x.undo();
        Due.due("the number", x.wall(1, 3, 4), 2);
        long[] all = {1, 3, 4, 0, 0, 0};
        for (int what = 0; what < all.length; what++) {
            Due.due("new in " + what, x.of(2, what), all[what]);
        }
    }

    @Says(in = 3, value = "BEYOND: kind, room, other.")
    static void wallBeyondKind() {
        Edges.range(Built::rich, 0, 5, (x, v) -> x.wall(v, 0, 0));
    }

    @Says(in = 3, value = "BEYOND: kind, room, other.")
    static void wallBeyondRoom() {
        Edges.range(Built::rich, 0, 9, (x, v) -> x.wall(0, v, 0));
    }

    @Says(in = 3, value = "BEYOND: kind, room, other.")
    static void wallBeyondOther() {
        Edges.range(Built::rich, 0, 9, (x, v) -> x.wall(0, 0, v));
    }

    @Says(in = 3, value = "FULL.")
    static void wallFull() {
        Edges.refused(Built::full, x -> x.wall(0, 0, 0), Due.FULL);
        WallShifts x = Built.of(0, 0, 0, 0, 0, 0, 0, 0, 0);
        Due.due("the tenth", x.wall(0, 0, 0), 9);
        Due.due("the eleventh", x.wall(0, 0, 0), Due.FULL);
    }

    // ---- promise 4

    @Says(in = 4, value = "what 0 KIND,")
    static void ofKind() {
        WallShifts x = Built.of(0, 1, 2, 3, 4, 5);
        for (int kind = 0; kind <= 5; kind++) {
            Due.due("kind", x.of(kind, 0), kind);
        }
    }

    @Says(in = 4, value = "1 ROOM, 2 the other one,")
    static void ofRooms() {
        WallShifts x = new WallShifts();
        x.wall(0, 9, 0);
        x.wall(0, 4, 4);
        Due.due("room", x.of(0, 1), 9);
        Due.due("the other one", x.of(0, 2), 0);
        Due.due("one room", x.of(1, 1), 4);
        Due.due("for both", x.of(1, 2), 4);
    }

    @Says(in = 4, value = "3 SIDE,")
    static void ofSide() {
        WallShifts x = Built.sides(3, 0, 1, 2);
        for (int wall = 0; wall < 4; wall++) {
            Due.due("side", x.of(wall, 3), (wall + 3) % 4);
        }
    }

    @Says(in = 4, value = "4 FILE,")
    static void ofFile() {
        WallShifts x = Built.heard(0);
        Due.due("empty", x.of(0, 4), 0);
        x.say(0, 15);
        Due.due("the highest word", x.of(0, 4), 32768);
        x.say(0, 0);
        Due.due("and the lowest", x.of(0, 4), 32769);
        x.set(0, 4, 65535);
        Due.due("all", x.of(0, 4), 65535);
    }

    @Says(in = 4, value = "5 TIRED,")
    static void ofTired() {
        WallShifts x = Built.heard(0);
        Due.due("fresh", x.of(0, 5), 0);
        x.say(0, 15);
        Due.due("once", x.of(0, 5), 1);
        x.set(0, 5, 99);
        Due.due("most", x.of(0, 5), 99);
    }

    @Says(in = 4, value = "6 1 if it is ON DUTY, else 0,")
    static void ofOnDuty() {
        WallShifts x = Built.of(0);
        int[] minutes = {0, 1, 2, 14, 15, 59, 60, 61, 62};
        int[] on = {0, 0, 1, 1, 0, 0, 0, 0, 1};
        for (int i = 0; i < minutes.length; i++) {
            if (minutes[i] > 0) {
                x.pass(minutes[i] - x.now(0));
            }
            Due.due("at " + minutes[i], x.of(0, 6), on[i]);
        }
        x.set(0, 5, 99);
        Due.due("asleep on duty", x.of(0, 6), 1);
    }

    @Says(in = 4, value = "7 1 if it is AWAKE, else 0,")
    static void ofAwake() {
        WallShifts x = Built.of(0);
        int[] tired = {0, 4, 5, 99};
        int[] awake = {1, 1, 0, 0};
        for (int i = 0; i < tired.length; i++) {
            x.set(0, 5, tired[i]);
            Due.due("tired " + tired[i], x.of(0, 7), awake[i]);
        }
    }

    @Says(in = 4, value = "8 TIRES.")
    static void ofTires() {
        WallShifts x = Built.of(0, 1, 2, 3, 4, 5);
        int[] tires = {1, 1, 1, 2, 0, 2};
        for (int kind = 0; kind <= 5; kind++) {
            Due.due("kind " + kind, x.of(kind, 8), tires[kind]);
        }
    }

    @Says(in = 4, value = "Of a WALL:")
    static void ofEachWallItsOwn() {
        WallShifts x = new WallShifts();
        for (int wall = 0; wall < 10; wall++) {
            x.wall(wall % 6, wall, 0);
            x.set(wall, 3, wall % 4);
            x.set(wall, 4, wall * 7);
            x.set(wall, 5, wall + 1);
        }
        for (int wall = 0; wall < 10; wall++) {
            int[] all = {wall % 6, wall, 0, wall % 4, wall * 7, wall + 1};
            for (int what = 0; what <= 5; what++) {
                Due.due("wall " + wall + " of " + what, x.of(wall, what), all[what]);
            }
        }
    }

    @Says(in = 4, value = "BEYOND.")
    static void ofBeyondWall() {
        Edges.range(Built::rich, 0, 2, (x, v) -> x.of(v, 0));
        Edges.range(Built::full, 0, 9, (x, v) -> x.of(v, 0));
        Edges.refused(Built::empty, x -> x.of(0, 0), Due.BEYOND);
    }

    @Says(in = 4, value = "BEYOND.")
    static void ofBeyondWhat() {
        Edges.range(Built::rich, 0, 8, (x, v) -> x.of(0, v));
    }

    // ---- promise 5

    @Says(in = 5, value = "ROOM (what 1), the other one (2), SIDE (3), FILE (4), TIRED (5) of a WALL becomes v: "
            + "what it was.")
    static void setTellsWhatItWas() {
        for (int what = 1; what <= 5; what++) {
            WallShifts x = Built.full();
            long first = x.of(9, what);
            Due.due("it was, " + what, x.set(9, what, 3), first);
            Due.due("it was 3, " + what, x.set(9, what, 2), 3);
            WallShifts y = Built.full();
            for (int wall = 0; wall < 10; wall++) {
                for (int part = 0; part <= 5; part++) {
                    boolean isIt = wall == 9 && part == what;
                    Due.due("it alone becomes 2", x.of(wall, part), isIt ? 2 : y.of(wall, part));
                }
            }
        }
    }

    @Says(in = 5, value = "BEYOND.")
    static void setBeyondWall() {
        Edges.range(Built::rich, 0, 2, (x, v) -> x.set(v, 3, 0));
        Edges.refused(Built::empty, x -> x.set(0, 3, 0), Due.BEYOND);
    }

    @Says(in = 5, value = "BEYOND.")
    static void setBeyondWhat() {
        // The KIND (what 0) is turned, not set.
        Edges.range(Built::rich, 1, 5, (x, v) -> x.set(0, v, 0));
    }

    @Says(in = 5, value = "BEYOND.")
    static void setBeyondRoom() {
        Edges.range(Built::rich, 0, 9, (x, v) -> x.set(0, 1, v));
    }

    @Says(in = 5, value = "BEYOND.")
    static void setBeyondOther() {
        Edges.range(Built::rich, 0, 9, (x, v) -> x.set(0, 2, v));
    }

    @Says(in = 5, value = "BEYOND.")
    static void setBeyondSide() {
        Edges.range(Built::rich, 0, 3, (x, v) -> x.set(0, 3, v));
    }

    @Says(in = 5, value = "BEYOND.")
    static void setBeyondFile() {
        Edges.range(Built::rich, 0, 65535, (x, v) -> x.set(0, 4, v));
    }

    @Says(in = 5, value = "BEYOND.")
    static void setBeyondTired() {
        Edges.range(Built::rich, 0, 99, (x, v) -> x.set(0, 5, v));
    }

    // ---- promise 6

    @Says(in = 6, value = "A WALL becomes one of another KIND: what it was.")
    static void turnTellsWhatItWas() {
        WallShifts x = Built.rich();
        int was = Built.THIN;
        for (int kind : new int[] {5, 4, 3, 2, 1, 0}) {
            Due.due("it was", x.turn(0, kind), was);
            Due.due("it is", x.of(0, 0), kind);
            was = kind;
        }
        long[] rest = {0, 0, 1, 0, 0x8421, 3};
        for (int what = 1; what <= 5; what++) {
            Due.due("the rest stays, " + what, x.of(0, what), rest[what]);
        }
        Due.due("the others stay", x.of(2, 0), Built.TAPESTRY);
    }

    @Says(in = 6, value = "A WALL becomes one of another KIND: what it was.")
    static void turnToTheKindThatItIs() {
        WallShifts x = Built.rich();
        Due.due("it was", x.turn(2, Built.TAPESTRY), Built.TAPESTRY);
        Edges.same("turned to what it is", x, Built.rich());
    }

    @Says(in = 6, value = "A WALL becomes one of another KIND: what it was.")
    static void turnedItListensAsSuch() {
        WallShifts x = Built.heard(Built.WALL);
        x.turn(0, Built.PAPERED);
        Due.due("it hears as papered", x.hears(0, 4), 5);
        x.turn(0, Built.STONE);
        Due.due("it hears as stone", x.hears(0, 3), Due.NONE);
        Due.due("it tires as stone", x.of(0, 8), 0);
        x.turn(0, Built.TAPESTRY);
        Due.due("it is on duty as a tapestry", x.duty(15), 1);
        x.set(0, 2, 5);
        Due.due("it doesn't leak", x.reach(0), 1);
        x.turn(0, Built.THIN);
        Due.due("it leaks as a thin one", x.reach(0), 33);
    }

    @Says(in = 6, value = "BEYOND.")
    static void turnBeyondWall() {
        Edges.range(Built::rich, 0, 2, (x, v) -> x.turn(v, 0));
        Edges.refused(Built::empty, x -> x.turn(0, 0), Due.BEYOND);
    }

    @Says(in = 6, value = "BEYOND.")
    static void turnBeyondKind() {
        Edges.range(Built::rich, 0, 5, (x, v) -> x.turn(0, v));
    }

    // ---- promise 7

    @Says(in = 7, value = "A WALL as one of a kind: FILE.")
    static void asItsKindOrAKindAbove() {
        int[][] are = {{0}, {1, 0}, {2, 0}, {3, 0}, {4, 1, 0}, {5, 2, 0}};
        for (int kind = 0; kind <= 5; kind++) {
            WallShifts x = Built.of(kind);
            for (int asked : are[kind]) {
                Due.due("empty, " + kind + " as " + asked, x.as(0, asked), 0);
                x.set(0, 4, 65535);
                Due.due("all, " + kind + " as " + asked, x.as(0, asked), 65535);
                x.set(0, 4, 0);
            }
        }
    }

    @Says(in = 7, value = "BEYOND: no such one, kind.")
    static void asBeyondWall() {
        Edges.range(Built::rich, 0, 2, (x, v) -> x.as(v, 0));
        Edges.refused(Built::empty, x -> x.as(0, 0), Due.BEYOND);
    }

    @Says(in = 7, value = "BEYOND: no such one, kind.")
    static void asBeyondKind() {
        Edges.range(Built::rich, 0, 5, (x, v) -> x.as(2, v));
    }

    @Says(in = 7, value = "KIND: it isn't of that kind, nor of one under it.")
    static void asAnotherKind() {
        int[][] aren = {{1, 2, 3, 4, 5}, {2, 3, 4, 5}, {1, 3, 4, 5}, {1, 2, 4, 5}, {2, 3, 5}, {1, 3, 4}};
        for (int kind = 0; kind <= 5; kind++) {
            int is = kind;
            for (int asked : aren[kind]) {
                Edges.refused(() -> Built.of(is), x -> x.as(0, asked), Due.KIND);
            }
        }
    }

    @Says(in = 7, value = "KIND: it isn't of that kind, nor of one under it.")
    static void asWhatItWasTurnedTo() {
        WallShifts x = Built.of(Built.STONE);
        Due.due("stone as north", x.as(0, Built.NORTH), 0);
        x.turn(0, Built.TAPESTRY);
        Due.due("no longer", x.as(0, Built.NORTH), Due.KIND);
        Due.due("a tapestry as papered", x.as(0, Built.PAPERED), 0);
    }

    // ---- promise 8

    @Says(in = 8, value = "What a WALL HEARS of a WORD.")
    static void hearsTheLeastAndTheGreatest() {
        WallShifts x = Built.of(0, 1, 2, 3, 4, 5);
        int[] ofLeast = {0, 0, 1, 0, -1, 0};
        int[] ofMost = {15, 15, 14, 15, 15, 15};
        for (int kind = 0; kind <= 5; kind++) {
            Due.due("0 for kind " + kind, x.hears(kind, 0), ofLeast[kind] < 0 ? Due.NONE : ofLeast[kind]);
            Due.due("15 for kind " + kind, x.hears(kind, 15), ofMost[kind]);
        }
    }

    @Says(in = 8, value = "What a WALL HEARS of a WORD.")
    static void hearsOffDutyAndAsleep() {
        WallShifts x = Built.of(Built.WALL);
        Due.due("off duty", x.of(0, 6), 0);
        x.set(0, 5, 99);
        Due.due("asleep", x.of(0, 7), 0);
        Due.due("what it hears is told", x.hears(0, 9), 9);
    }

    @Says(in = 8, value = "What a WALL HEARS of a WORD.")
    static void hearsChangesNothing() {
        Edges.unchanged(Built::rich, x -> x.hears(2, 9));
    }

    @Says(in = 8, value = "BEYOND.")
    static void hearsBeyondWall() {
        Edges.range(Built::rich, 0, 2, (x, v) -> x.hears(v, 5));
        Edges.refused(Built::empty, x -> x.hears(0, 5), Due.BEYOND);
    }

    @Says(in = 8, value = "BEYOND.")
    static void hearsBeyondWord() {
        Edges.range(Built::rich, 0, 15, (x, v) -> x.hears(0, v));
        Edges.range(() -> Built.of(Built.STONE), 0, 15, (x, v) -> x.hears(0, v));
    }

    @Says(in = 8, value = "NONE: nothing.")
    static void hearsNone() {
        for (int word = 0; word <= 3; word++) {
            int low = word;
            Edges.refused(() -> Built.of(Built.STONE), x -> x.hears(0, low), Due.NONE);
        }
        Due.due("stone hears 4", Built.of(Built.STONE).hears(0, 4), 4);
        Due.due("north hears 3", Built.of(Built.NORTH).hears(0, 3), 3);
    }
}
