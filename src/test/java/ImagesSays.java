/** Promises 34 to 38, sentence by sentence: images, counts, and the findings counted; and the 512 calls. */
final class ImagesSays {
    private ImagesSays() {
    }

    /** Nothing is left as it was in Built.rich(), but for the sheets, the tape and the image. */
    private static void upset(WallShifts x) {
        for (int wall = 0; wall < 3; wall++) {
            x.turn(wall, Built.NORTH);
            x.set(wall, 1, 5);
            x.set(wall, 2, 6);
            x.set(wall, 3, 1);
            x.set(wall, 4, 12345);
            x.set(wall, 5, 50);
        }
        x.wall(Built.STONE, 7, 7);
        for (int what = 0; what <= 3; what++) {
            x.rota(what, 2);
        }
        x.pass(1);
    }

    // ---- promise 34

    @Says(in = 34, value = "All that section 1 tells")
    static void imageKeepsAll() {
        WallShifts x = Built.rich();
        x.image();
        upset(x);
        x.undo();
        // rich() has an image of its own, so both keep the same now.
        WallShifts y = Built.rich();
        y.image();
        Edges.same("after undo", x, y);
    }

    @Says(in = 34, value = "All that section 1 tells")
    static void imageKeepsAsMuchAsCanBe() {
        WallShifts x = Built.full();
        for (int wall = 0; wall < 10; wall++) {
            for (int what = 1; what <= 5; what++) {
                x.set(wall, what, new int[] {0, 9, 9, 3, 65535, 99}[what]);
            }
        }
        x.image();
        for (int wall = 0; wall < 10; wall++) {
            for (int what = 1; what <= 5; what++) {
                x.set(wall, what, 0);
            }
        }
        Due.due("ten", x.undo(), 10);
        for (int wall = 0; wall < 10; wall++) {
            for (int what = 1; what <= 5; what++) {
                Due.due("wall " + wall + " of " + what, x.of(wall, what), new int[] {0, 9, 9, 3, 65535, 99}[what]);
            }
        }
        WallShifts late = Built.late();
        late.image();
        late.say(0, 3);
        late.undo();
        Due.due("the last minute", late.now(0), 99999);
        Due.due("fresh", late.now(6), 0);
    }

    @Says(in = 34, value = "All that section 1 tells")
    static void imageOfAnEmptyPalace() {
        WallShifts x = new WallShifts();
        x.image();
        x.wall(0, 0, 0);
        Due.due("no walls", x.undo(), 0);
        Due.due("none is told of", x.of(0, 0), Due.BEYOND);
    }

    @Says(in = 34, value = "(THE TAPE not)")
    static void imageKeepsNoTape() {
        WallShifts x = new WallShifts();
        Due.feed(x, "shift 9");
        x.image();
        x.wipe();
        Due.feed(x, "shift 10");
        x.undo();
        Due.due("the tape stays", x.count(1), 8);
        Due.due("told", x.palace(), 1);
        Due.due("as it was fed last", x.now(1), 10);
    }

    @Says(in = 34, value = "All that section 1 tells")
    static void imageKeepsNoSheet() {
        // Sheets are section 3.
        WallShifts x = new WallShifts();
        x.sheet(0, 8, 2);
        x.image();
        x.write(0, 0, 7);
        x.sheet(1, 64, 3);
        x.undo();
        Due.due("written", x.write(0, 0, 0), 7);
        Due.due("still there", x.write(1, 2, 0), 0);
        x.image();
        x.sheet(0, 0, 0);
        x.undo();
        Due.due("still missing", x.write(0, 0, 0), Due.MISSING);
    }

    @Says(in = 34, value = "is kept: 1.")
    static void imageAnswersOne() {
        WallShifts x = new WallShifts();
        Due.due("the first", x.image(), 1);
        Due.due("another", x.image(), 1);
        WallShifts full = Built.full();
        Due.due("of a full one", full.image(), 1);
        Due.due("nothing else changes", x.count(0) + x.now(0), 0);
    }

    // ---- promise 35

    @Says(in = 35, value = "It becomes what was kept latest")
    static void undoTheLatest() {
        WallShifts x = new WallShifts();
        x.image();
        x.wall(0, 0, 0);
        x.image();
        x.wall(0, 0, 0);
        Due.due("the latest", x.undo(), 1);
        Due.due("the same again, none before it", x.undo(), 1);
    }

    @Says(in = 35, value = "(which stays): how many WALLS.")
    static void undoAgainAndAgain() {
        WallShifts x = Built.of(0);
        x.image();
        for (int i = 0; i < 5; i++) {
            x.wall(3, 0, 9);
            x.set(0, 4, 100 + i);
            x.rota(0, 30 + i);
            x.pass(7);
            Due.due("one", x.undo(), 1);
            Due.due("file", x.of(0, 4), 0);
            Due.due("shift", x.now(1), 15);
            Due.due("minute", x.now(0), 0);
            Due.due("reach", x.reach(0), 1);
        }
        Due.due("none of none", emptyKept().undo(), 0);
        WallShifts full = Built.full();
        full.image();
        Due.due("ten", full.undo(), 10);
    }

    private static WallShifts emptyKept() {
        WallShifts x = new WallShifts();
        x.image();
        return x;
    }

    @Says(in = 35, value = "(which stays): how many WALLS.")
    static void undoWithNothingChanged() {
        WallShifts x = Built.rich();
        x.image();
        x.undo();
        WallShifts y = Built.rich();
        y.image();
        Edges.same("after an undo of nothing", x, y);
    }

    @Says(in = 35, value = "NONE: nothing is kept.")
    static void undoNone() {
        Edges.refused(Built::full, x -> x.undo(), Due.NONE);
        Edges.refused(() -> torn(), x -> x.undo(), Due.NONE);
    }

    private static WallShifts torn() {
        WallShifts x = Built.rich();
        x.tear();
        return x;
    }

    // ---- promise 36

    @Says(in = 36, value = "Nothing is kept: 1 if something was, else 0.")
    static void tearSomethingAndNothing() {
        WallShifts x = new WallShifts();
        Due.due("nothing was", x.tear(), 0);
        x.image();
        x.image();
        Due.due("something was", x.tear(), 1);
        Due.due("nothing is", x.tear(), 0);
        Due.due("to undo", x.undo(), Due.NONE);
        x.image();
        x.undo();
        Due.due("an undo leaves it", x.tear(), 1);
    }

    @Says(in = 36, value = "Nothing is kept: 1 if something was, else 0.")
    static void tearLeavesThePalace() {
        WallShifts x = torn();
        long[] now = {7, 20, 1, 1, 6, 0x8427, 9};
        for (int what = 0; what < now.length; what++) {
            Due.due("now " + what, x.now(what), now[what]);
        }
        Due.due("walls", x.count(0), 3);
        Due.due("tape", x.count(1), 24);
        Due.due("sheet", x.write(0, 1, 0), 100);
    }

    // ---- promise 37

    @Says(in = 37, value = "0 WALLS,")
    static void countWalls() {
        WallShifts x = new WallShifts();
        for (int n = 0; n < 10; n++) {
            Due.due("so many", x.count(0), n);
            x.wall(n % 6, n, n);
        }
        Due.due("ten", x.count(0), 10);
        x.wall(0, 0, 0);
        Due.due("no eleventh", x.count(0), 10);
    }

    @Says(in = 37, value = "1 bytes of THE TAPE,")
    static void countBytes() {
        WallShifts x = new WallShifts();
        Due.due("none", x.count(1), 0);
        for (int n = 4; n <= 120; n += 4) {
            x.feed(0x20202020, 4);
            Due.due("so many", x.count(1), n);
        }
        x.feed(0, 1);
        Due.due("120", x.count(1), 120);
        x.wipe();
        Due.due("wiped", x.count(1), 0);
    }

    @Says(in = 37, value = "2 WORDS of all FILES, counted each,")
    static void countWords() {
        WallShifts x = Built.full();
        Due.due("none", x.count(2), 0);
        x.set(0, 4, 1);
        x.set(9, 4, 1);
        Due.due("the same word twice", x.count(2), 2);
        for (int wall = 0; wall < 10; wall++) {
            x.set(wall, 4, 65535);
        }
        Due.due("all of all", x.count(2), 160);
    }

    @Says(in = 37, value = "3 those that are AWAKE.")
    static void countAwake() {
        WallShifts x = Built.full();
        Due.due("all", x.count(3), 10);
        x.set(0, 5, 4);
        Due.due("just below courage", x.count(3), 10);
        x.set(0, 5, 5);
        Due.due("at courage", x.count(3), 9);
        for (int wall = 0; wall < 10; wall++) {
            x.set(wall, 5, 99);
        }
        Due.due("none", x.count(3), 0);
        Due.due("no walls", new WallShifts().count(3), 0);
    }

    @Says(in = 37, value = "BEYOND: another what.")
    static void countBeyond() {
        Edges.range(Built::rich, 0, 3, (x, v) -> x.count(v));
    }

    // ---- promise 38

    @Says(in = 38, value = "How many acts answered a finding ever")
    static void statusCountsEachFinding() {
        WallShifts x = Built.full();
        x.reach(10);
        for (int i = 0; i < 2; i++) {
            x.wall(0, 0, 0);
        }
        for (int i = 0; i < 3; i++) {
            x.as(0, 1);
        }
        for (int i = 0; i < 4; i++) {
            x.undo();
        }
        for (int i = 0; i < 5; i++) {
            x.lays(0);
        }
        for (int i = 0; i < 6; i++) {
            x.sheet(0, 8, -1);
        }
        long[] of = {1, 2, 3, 4, 0, 5, 6};
        for (int which = 0; which <= 6; which++) {
            Due.due("which " + which, x.status(which), of[which]);
        }
        Due.due("all", x.status(-1), 21);
        WallShifts late = Built.late();
        late.pass(1);
        late.speak(0, 1);
        Due.due("STATE", late.status(4), 2);
        Due.due("and no other", late.status(-1), 2);
    }

    @Says(in = 38, value = "How many acts answered a finding ever")
    static void statusIsNoActOfItsOwn() {
        WallShifts x = new WallShifts();
        for (int which = -1; which <= 6; which++) {
            Due.due("none at first", x.status(which), 0);
        }
        Due.due("to ask is no finding", x.status(-1), 0);
        Due.told(x, "no palace");
        Due.due("nor is a fault", x.status(-1), 0);
        x.write(0, 0, 0);
        x.write(4, 0, 0);
        Due.due("findings in longs are", x.status(-1), 2);
    }

    @Says(in = 38, value = "(undo() takes none back):")
    static void statusStaysAfterUndo() {
        WallShifts x = new WallShifts();
        x.image();
        x.reach(10);
        x.undo();
        Due.due("BEYOND", x.status(0), 1);
        x.tear();
        x.undo();
        x.image();
        x.undo();
        Due.due("all", x.status(-1), 2);
    }

    @Says(in = 38, value = "which -1: all, 0 to 6: BEYOND to SIZE.")
    static void statusAtTheEdges() {
        WallShifts x = new WallShifts();
        x.reach(10);
        x.sheet(0, 8, -1);
        Due.due("-1", x.status(-1), 2);
        Due.due("0", x.status(0), 1);
        Due.due("6", x.status(6), 1);
        Edges.range(Built::rich, -1, 6, (y, v) -> y.status(v));
    }

    @Says(in = 38, value = "BEYOND (counted from then on): another one.")
    static void statusCountsItsOwnBeyond() {
        WallShifts x = new WallShifts();
        Due.due("7", x.status(7), Due.BEYOND);
        Due.due("counted", x.status(0), 1);
        Due.due("-2", x.status(-2), Due.BEYOND);
        Due.due("counted with all", x.status(-1), 2);
    }

    // ---- what it is

    @Says(in = Says.WHAT, value = "An object is used for at most 512 calls after it has been made;")
    static void goodFor512Calls() {
        WallShifts x = new WallShifts();
        for (int call = 1; call < 512; call++) {
            x.reach(10);
        }
        Due.due("the 512th", x.status(0), 511);
        WallShifts y = new WallShifts();
        for (int call = 1; call < 510; call++) {
            y.sheet(0, 64, 40);
        }
        Due.due("the 510th", y.wall(5, 1, 2), 0);
        Due.due("the 511th", y.image(), 1);
        Due.due("the 512th", y.undo(), 1);
    }
}
