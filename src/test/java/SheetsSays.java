/** Promises 28 to 33, sentence by sentence: sheets, and what comes of them and to them. */
final class SheetsSays {
    private static final int[] BITS = {8, 16, 64};

    private SheetsSays() {
    }

    private static WallShifts withSheet(int bits, long... row) {
        return withSheet(new WallShifts(), bits, row);
    }

    private static WallShifts withSheet(WallShifts x, int bits, long... row) {
        x.sheet(0, bits, row.length);
        for (int i = 0; i < row.length; i++) {
            x.write(0, i, row[i]);
        }
        return x;
    }

    /** A sheet's numbers are these, and it has no more. */
    private static void rowIs(String what, WallShifts x, int s, long... row) {
        for (int i = 0; i < row.length; i++) {
            long was = x.write(s, i, 0);
            x.write(s, i, was);
            Due.due(what + ", number " + i, was, row[i]);
        }
        Due.due(what + ", no more", x.write(s, row.length, 0), Due.BEYOND);
    }

    // ---- promise 28

    @Says(in = 28, value = "A sheet has n numbers, all 0, of 8, 16 or 64 bits;")
    static void sheetAllZero() {
        for (int bits : BITS) {
            WallShifts x = withSheet(bits, 1, 2, 3);
            Due.due("anew", x.sheet(0, bits, 4), 4);
            rowIs("of " + bits, x, 0, 0, 0, 0, 0);
            Due.due("as many again", x.sheet(0, bits, 4), 4);
            rowIs("of " + bits + " again", x, 0, 0, 0, 0, 0);
        }
    }

    @Says(in = 28, value = "A sheet has n numbers, all 0, of 8, 16 or 64 bits;")
    static void sheetOfNoneAndOfForty() {
        for (int bits : BITS) {
            WallShifts x = new WallShifts();
            Due.due("none", x.sheet(3, bits, 0), 0);
            Due.due("it's not missing", x.write(3, 0, 1), Due.BEYOND);
            Due.due("forty", x.sheet(3, bits, 40), 40);
            Due.due("the last", x.write(3, 39, 7), 0);
            Due.due("the last again", x.write(3, 39, 8), 7);
            Due.due("behind the last", x.write(3, 40, 7), Due.BEYOND);
            Due.due("one", x.sheet(3, bits, 1), 1);
            Due.due("its only one", x.write(3, 0, 7), 0);
            Due.due("it has no second", x.write(3, 1, 7), Due.BEYOND);
            Due.due("forty anew", x.sheet(3, bits, 40), 40);
            Due.due("nothing of old", x.write(3, 39, 7), 0);
        }
    }

    @Says(in = 28, value = "A sheet has n numbers, all 0, of 8, 16 or 64 bits;")
    static void sheetBitsAreItsOwn() {
        for (int bits : BITS) {
            WallShifts x = withSheet(64, 5);
            x.sheet(0, bits, 1);
            x.sheet(1, bits == 8 ? 16 : 8, 1);
            x.write(0, 0, 0x1000000010001064L);
            Due.due("lowest " + bits, x.write(0, 0, 0), bits == 8 ? 0x64 : bits == 16 ? 0x1064 : 0x1000000010001064L);
            Due.due("another kind", x.copy(0, 0, 1, 0, 1), Due.KIND);
        }
    }

    @Says(in = 28, value = "A sheet has n numbers, all 0, of 8, 16 or 64 bits;")
    static void sheetsAreFour() {
        WallShifts x = new WallShifts();
        for (int s = 0; s <= 3; s++) {
            x.sheet(s, 8, 1 + s);
            x.write(s, 0, 10 + s);
        }
        x.sheet(2, 0, 0);
        Due.due("0", x.write(0, 0, 0), 10);
        Due.due("1", x.write(1, 0, 0), 11);
        Due.due("2", x.write(2, 0, 0), Due.MISSING);
        Due.due("3", x.write(3, 0, 0), 13);
        Due.due("as many as its own", x.write(3, 3, 0), 0);
    }

    @Says(in = 28, value = "bits 0: it is MISSING: n (0 if it is MISSING).")
    static void sheetMissing() {
        for (int n : new int[] {0, 1, 40}) {
            WallShifts x = withSheet(8, 1, 2, 3);
            Due.due("0 for " + n, x.sheet(0, 0, n), 0);
            Due.due("missing", x.write(0, 0, 1), Due.MISSING);
            Due.due("missing again", x.sheet(0, 0, n), 0);
        }
    }

    @Says(in = 28, value = "BEYOND: no such sheet, other bits.")
    static void sheetBeyondSheet() {
        Edges.range(Built::rich, 0, 3, (x, v) -> x.sheet(v, 8, 1));
        Edges.range(Built::rich, 0, 3, (x, v) -> x.sheet(v, 0, 0));
    }

    @Says(in = 28, value = "BEYOND: no such sheet, other bits.")
    static void sheetBeyondBits() {
        for (int bits : new int[] {-8, -1, 1, 7, 9, 15, 17, 24, 32, 63, 65, 128, Integer.MIN_VALUE, Integer.MAX_VALUE}) {
            Edges.refused(Built::rich, x -> x.sheet(0, bits, 1), Due.BEYOND);
        }
    }

    @Says(in = 28, value = "SIZE: n is below 0 (also with bits 0).")
    static void sheetSize() {
        for (int bits : new int[] {0, 8, 16, 64}) {
            Edges.refused(Built::rich, x -> x.sheet(0, bits, -1), Due.SIZE);
            Edges.refused(Built::rich, x -> x.sheet(0, bits, Integer.MIN_VALUE), Due.SIZE);
        }
    }

    @Says(in = 28, value = "BEYOND: n is above 40 (also with bits 0).")
    static void sheetBeyondForty() {
        for (int bits : new int[] {0, 8, 16, 64}) {
            Due.due("forty", Built.rich().sheet(0, bits, 40), bits == 0 ? 0 : 40);
            Edges.refused(Built::rich, x -> x.sheet(0, bits, 41), Due.BEYOND);
            Edges.refused(Built::rich, x -> x.sheet(0, bits, Integer.MAX_VALUE), Due.BEYOND);
        }
    }

    // ---- promise 29

    @Says(in = 29, value = "Number i of a sheet becomes v")
    static void writeTheFirstAndTheLast() {
        for (int bits : BITS) {
            WallShifts x = withSheet(bits, 1, 2, 3);
            Due.due("the first", x.write(0, 0, 9), 1);
            Due.due("the last", x.write(0, 2, 8), 3);
            rowIs("it alone", x, 0, 9, 2, 8);
        }
    }

    @Says(in = 29, value = "(its lowest bits): what it was.")
    static void writeTheLowestBits() {
        // In none of these the highest bit of 8 or of 16 is set, so they have no sign to be read.
        long[] v = {0x7f, 0x17f, 0x7f7f, 0x17f7f, 0x17fffffff5501L, 1L << 40, Long.MAX_VALUE & ~0x8080L};
        long[] of8 = {0x7f, 0x7f, 0x7f, 0x7f, 1, 0, 0x7f};
        long[] of16 = {0x7f, 0x17f, 0x7f7f, 0x7f7f, 0x5501, 0, 0x7f7f};
        WallShifts x = new WallShifts();
        for (int i = 0; i < v.length; i++) {
            x.sheet(0, 8, 1);
            x.sheet(1, 16, 1);
            x.sheet(2, 64, 1);
            Due.due("it was 0", x.write(0, 0, v[i]) + x.write(1, 0, v[i]) + x.write(2, 0, v[i]), 0);
            Due.due("8 bits of " + v[i], x.write(0, 0, 0), of8[i]);
            Due.due("16 bits of " + v[i], x.write(1, 0, 0), of16[i]);
            Due.due("64 bits of " + v[i], x.write(2, 0, 0), v[i]);
        }
    }

    @Says(in = 29, value = "(its lowest bits): what it was.")
    static void writeTellsTheHighestBitAsASign() {
        // Chosen, as NOTES.md tells: numbers of 8 and 16 bits are as Java's byte and short.
        WallShifts x = new WallShifts();
        x.sheet(0, 8, 1);
        x.sheet(1, 16, 1);
        x.sheet(2, 64, 1);
        x.write(0, 0, 128);
        x.write(1, 0, 32768);
        x.write(2, 0, Long.MIN_VALUE);
        Due.due("8 bits", x.write(0, 0, -129), -128);
        Due.due("16 bits", x.write(1, 0, -32769), -32768);
        Due.due("64 bits", x.write(2, 0, 0), Long.MIN_VALUE);
        Due.due("127", x.write(0, 0, 0), 127);
        Due.due("32767", x.write(1, 0, 0), 32767);
    }

    @Says(in = 29, value = "what it was.")
    static void writeOfAFindingIsNone() {
        for (long finding = Due.SIZE; finding <= Due.BEYOND; finding++) {
            WallShifts x = withSheet(64, finding);
            Due.due("what it was", x.write(0, 0, 0), finding);
            Due.due("no finding", x.status(-1), 0);
        }
    }

    @Says(in = 29, value = "BEYOND: no such sheet.")
    static void writeBeyondSheet() {
        Edges.range(Built::rich, 0, 3, (x, v) -> x.write(v, 0, 1));
    }

    @Says(in = 29, value = "MISSING.")
    static void writeMissing() {
        Edges.refused(Built::rich, x -> x.write(3, 0, 1), Due.MISSING);
        Edges.refused(() -> gone(), x -> x.write(0, 0, 1), Due.MISSING);
    }

    private static WallShifts gone() {
        WallShifts x = Built.rich();
        x.sheet(0, 0, 3);
        return x;
    }

    @Says(in = 29, value = "BEYOND: no such number.")
    static void writeBeyondNumber() {
        Edges.range(Built::rich, 0, 2, (x, v) -> x.write(0, v, 1));
        Edges.refused(() -> withSheet(8), x -> x.write(0, 0, 1), Due.BEYOND);
    }

    // ---- promise 30

    private static WallShifts two(int bits, int first, int second) {
        WallShifts x = new WallShifts();
        x.sheet(0, bits, first);
        x.sheet(1, bits, second);
        for (int i = 0; i < first; i++) {
            x.write(0, i, i + 1);
        }
        return x;
    }

    @Says(in = 30, value = "n numbers of a sheet from one on come to another one from one on")
    static void copyToAnother() {
        for (int bits : BITS) {
            WallShifts x = two(bits, 5, 4);
            Due.due("two", x.copy(0, 3, 1, 1, 2), 2);
            rowIs("to", x, 1, 0, 4, 5, 0);
            rowIs("from", x, 0, 1, 2, 3, 4, 5);
        }
    }

    @Says(in = 30, value = "(as they all were): n.")
    static void copyWithinASheet() {
        for (int bits : BITS) {
            WallShifts up = two(bits, 5, 0);
            Due.due("up", up.copy(0, 0, 0, 1, 4), 4);
            rowIs("up", up, 0, 1, 1, 2, 3, 4);
            WallShifts down = two(bits, 5, 0);
            Due.due("down", down.copy(0, 1, 0, 0, 4), 4);
            rowIs("down", down, 0, 2, 3, 4, 5, 5);
            WallShifts stays = two(bits, 5, 0);
            Due.due("onto itself", stays.copy(0, 0, 0, 0, 5), 5);
            rowIs("onto itself", stays, 0, 1, 2, 3, 4, 5);
        }
    }

    @Says(in = 30, value = "(as they all were): n.")
    static void copyOfNoneAndOfForty() {
        WallShifts x = two(16, 40, 40);
        Due.due("none", x.copy(0, 0, 1, 0, 0), 0);
        Due.due("none came", x.write(1, 0, 0), 0);
        Due.due("forty", x.copy(0, 0, 1, 0, 40), 40);
        Due.due("the first", x.write(1, 0, 0), 1);
        Due.due("the last", x.write(1, 39, 0), 40);
        Due.due("none, from behind the last", two(8, 3, 2).copy(0, 3, 1, 2, 0), 0);
        Due.due("none of none", two(8, 0, 0).copy(0, 0, 1, 0, 0), 0);
    }

    @Says(in = 30, value = "BEYOND: no such sheet (either).")
    static void copyBeyondSheets() {
        Edges.range(Built::rich, 0, 3, (x, v) -> x.copy(v, 0, 0, 0, 1));
        Edges.range(Built::rich, 0, 3, (x, v) -> x.copy(0, 0, v, 0, 1));
    }

    @Says(in = 30, value = "MISSING: one is.")
    static void copyMissing() {
        Edges.refused(Built::rich, x -> x.copy(3, 0, 0, 0, 1), Due.MISSING);
        Edges.refused(Built::rich, x -> x.copy(0, 0, 3, 0, 1), Due.MISSING);
        Edges.refused(Built::rich, x -> x.copy(3, 0, 3, 0, 0), Due.MISSING);
    }

    @Says(in = 30, value = "KIND: they are not of as many bits.")
    static void copyOfOtherBits() {
        for (int s = 0; s <= 2; s++) {
            for (int t = 0; t <= 2; t++) {
                int from = s;
                int to = t;
                if (s != t) {
                    Edges.refused(Built::rich, x -> x.copy(from, 0, to, 0, 0), Due.KIND);
                } else {
                    Due.due("of as many", Built.rich().copy(s, 0, t, 0, 1), 1);
                }
            }
        }
    }

    @Says(in = 30, value = "BEYOND: one has not so many, or from, to or n is below 0.")
    static void copyBeyondTheirEnds() {
        Due.due("the first's end", two(8, 3, 9).copy(0, 1, 1, 0, 2), 2);
        Edges.refused(() -> two(8, 3, 9), x -> x.copy(0, 1, 1, 0, 3), Due.BEYOND);
        Edges.refused(() -> two(8, 3, 9), x -> x.copy(0, 3, 1, 0, 1), Due.BEYOND);
        Edges.refused(() -> two(8, 3, 9), x -> x.copy(0, 4, 1, 0, 0), Due.BEYOND);
        Due.due("the second's end", two(8, 9, 3).copy(0, 0, 1, 1, 2), 2);
        Edges.refused(() -> two(8, 9, 3), x -> x.copy(0, 0, 1, 1, 3), Due.BEYOND);
        Edges.refused(() -> two(8, 9, 3), x -> x.copy(0, 0, 1, 3, 1), Due.BEYOND);
        Edges.refused(() -> two(8, 9, 3), x -> x.copy(0, 0, 1, 4, 0), Due.BEYOND);
        Edges.refused(() -> two(8, 3, 3), x -> x.copy(0, 0, 0, 1, 3), Due.BEYOND);
    }

    @Says(in = 30, value = "BEYOND: one has not so many, or from, to or n is below 0.")
    static void copyBeyondBelowZero() {
        int min = Integer.MIN_VALUE;
        int max = Integer.MAX_VALUE;
        int[][] wrong = {{-1, 0, 1}, {0, -1, 1}, {0, 0, -1}, {-1, 0, 0}, {0, -1, 0}, {-1, -1, -1}, {1, 0, -1},
            {0, 1, -1}, {3, 3, -1}, {min, 0, 1}, {0, min, 1}, {0, 0, min}, {min, min, min}, {max, 0, 1},
            {0, max, 1}, {0, 0, max}, {1, 1, max}, {max, max, max}, {max, 0, max}, {0, max, max}, {max, max, 2},
            {min, 0, max}, {0, min, max}, {max, 0, min}, {0, max, min}};
        for (int[] one : wrong) {
            Edges.refused(() -> two(8, 3, 3), x -> x.copy(0, one[0], 1, one[1], one[2]), Due.BEYOND);
        }
    }

    // ---- promise 31

    @Says(in = 31, value = "Numbers of a sheet become FILES of WALLS 0, 1, ..")
    static void laysInOrder() {
        for (int bits : BITS) {
            WallShifts x = withSheet(Built.of(0, 1, 2), bits, 5, 0, 127);
            x.set(1, 4, 9);
            x.set(2, 5, 3);
            Due.due("three", x.lays(0), 3);
            Due.due("the first", x.of(0, 4), 5);
            Due.due("the second, emptied", x.of(1, 4), 0);
            Due.due("the third", x.of(2, 4), 127);
            Due.due("nobody tires or rests", x.now(6), 3);
            rowIs("the sheet stays", x, 0, 5, 0, 127);
        }
    }

    @Says(in = 31, value = "(those that aren't 0 to 65535, or stand for none, are left out): how many came.")
    static void laysLeavesOutThoseThatAreNoSet() {
        WallShifts x = withSheet(Built.full(), 64, 0, 65535, 65536, -1, Long.MIN_VALUE, Long.MAX_VALUE, 1L << 32,
                (1L << 32) + 5, -65536, 1);
        for (int wall = 0; wall < 10; wall++) {
            x.set(wall, 4, 77);
        }
        Due.due("three", x.lays(0), 3);
        int[] files = {0, 65535, 77, 77, 77, 77, 77, 77, 77, 1};
        for (int wall = 0; wall < 10; wall++) {
            Due.due("file " + wall, x.of(wall, 4), files[wall]);
        }
    }

    @Says(in = 31, value = "(those that aren't 0 to 65535, or stand for none, are left out): how many came.")
    static void laysLeavesOutThoseThatStandForNone() {
        Due.due("no walls", withSheet(8, 1, 2).lays(0), 0);
        WallShifts x = withSheet(Built.of(0, 0), 8, 1, 2, 3);
        Due.due("two of three", x.lays(0), 2);
        Due.due("no third wall", x.count(0), 2);
        Due.due("one built later is empty", x.of(x.wall(0, 0, 0), 4), 0);
        WallShifts forty = Built.full();
        forty.sheet(0, 16, 40);
        Due.due("ten of forty", forty.lays(0), 10);
    }

    @Says(in = 31, value = "how many came.")
    static void laysFewerThanWalls() {
        WallShifts x = withSheet(Built.full(), 16, 300);
        for (int wall = 0; wall < 10; wall++) {
            x.set(wall, 4, 77);
        }
        Due.due("one", x.lays(0), 1);
        Due.due("the first", x.of(0, 4), 300);
        Due.due("the second stays", x.of(1, 4), 77);
        Edges.unchanged(() -> withSheet(Built.of(0), 8), y -> y.lays(0));
        Due.due("none", withSheet(Built.of(0), 8).lays(0), 0);
    }

    @Says(in = 31, value = "BEYOND: no such sheet.")
    static void laysBeyond() {
        Edges.range(Built::rich, 0, 3, (x, v) -> x.lays(v));
    }

    @Says(in = 31, value = "MISSING.")
    static void laysMissing() {
        Edges.refused(Built::rich, x -> x.lays(3), Due.MISSING);
        Edges.refused(() -> gone(), x -> x.lays(0), Due.MISSING);
    }

    // ---- promise 32

    @Says(in = 32, value = "A book: 1 or 0, whether a WALL is ON DUTY in this MINUTE, the next one, ..,")
    static void bookFromThisMinuteOn() {
        for (int bits : BITS) {
            WallShifts x = Built.sides(0, 1);
            x.sheet(0, bits, 6);
            x.pass(13);
            Due.due("six", x.book(0, 0), 6);
            rowIs("13 to 18 of side 0", x, 0, 1, 1, 0, 0, 0, 0);
            Due.due("six again", x.book(0, 1), 6);
            rowIs("13 to 18 of side 1", x, 0, 0, 0, 0, 0, 1, 1);
            Due.due("no minute goes", x.now(0), 13);
        }
    }

    @Says(in = 32, value = "whether a WALL is ON DUTY in this MINUTE,")
    static void bookOfOneAsleep() {
        WallShifts x = Built.heard(0);
        x.set(0, 5, 99);
        x.sheet(0, 8, 2);
        x.book(0, 0);
        rowIs("asleep on duty", x, 0, 1, 1);
    }

    @Says(in = 32, value = "comes to a sheet, as many as it has numbers: how many.")
    static void bookAsManyAsItHas() {
        for (int n : new int[] {0, 1, 40}) {
            WallShifts x = Built.heard(0);
            x.rota(0, 60);
            x.sheet(0, 8, n);
            Due.due("how many", x.book(0, 0), n);
            Due.due("no more", x.write(0, n, 0), Due.BEYOND);
            Due.due("the last", n == 0 ? 1 : x.write(0, n - 1, 0), 1);
        }
        WallShifts late = Built.late();
        late.sheet(0, 8, 7);
        Due.due("behind the last minute", late.book(0, 0), 7);
        rowIs("99999 to 100005", late, 0, 1, 1, 1, 1, 1, 1, 0);
    }

    @Says(in = 32, value = "BEYOND: no such sheet.")
    static void bookBeyondSheet() {
        Edges.range(Built::rich, 0, 3, (x, v) -> x.book(v, 0));
    }

    @Says(in = 32, value = "MISSING.")
    static void bookMissing() {
        Edges.refused(Built::rich, x -> x.book(3, 0), Due.MISSING);
        Edges.refused(() -> gone(), x -> x.book(0, 0), Due.MISSING);
    }

    @Says(in = 32, value = "BEYOND: wall.")
    static void bookBeyondWall() {
        Edges.range(Built::rich, 0, 2, (x, v) -> x.book(0, v));
        Edges.refused(() -> withSheet(8), x -> x.book(0, 0), Due.BEYOND);
        Edges.refused(() -> withSheet(8, 7), x -> x.book(0, 0), Due.BEYOND);
    }

    // ---- promise 33

    @Says(in = 33, value = "THE READER, a clerk of plaster: numbers of a sheet are 1 or 0, whether a WALL is ON DUTY "
            + "in this MINUTE, the next one, ..:")
    static void readFromThisMinuteOn() {
        WallShifts x = Built.heard(0);
        x.pass(14);
        withSheet(x, 8, 1, 0);
        // On at 14 and off at 15 are those of side 0, but the tapestry; that of 3 is.
        Due.due("14 and 15", x.read(0, 0), 6);
        x.pass(1);
        // On at 15, off at 16 is none.
        Due.due("15 and 16", x.read(0, 0), 0);
        x.pass(14);
        // On at 29, off at 30: side 1 but the tapestry, and the tapestry of 0.
        Due.due("29 and 30", x.read(0, 0), 6);
    }

    @Says(in = 33, value = "with how many pairs of a KIND and a SIDE of it that is just so.")
    static void readAllPairsAndNone() {
        Due.due("an empty sheet is as any pair's", withSheet(Built.of(0), 8).read(0, 0), 24);
        Due.due("two minutes of change are", withSheet(Built.of(0), 8, 0, 0).read(0, 0), 24);
        Due.due("none is on at the change", withSheet(Built.of(0), 8, 1).read(0, 0), 0);
        Due.due("six of side 0, a tapestry of 3", withSheet(Built.of(0), 8, 0, 0, 1).read(0, 0), 7);
        Due.due("the others", withSheet(Built.of(0), 8, 0, 0, 0).read(0, 0), 17);
    }

    @Says(in = 33, value = "with how many pairs of a KIND and a SIDE of it that is just so.")
    static void readFortyMinutes() {
        WallShifts x = Built.of(Built.TAPESTRY);
        x.sheet(0, 64, 40);
        x.book(0, 0);
        Due.due("a tapestry of 0 alone", x.read(0, 0), 1);
        x.write(0, 39, 1);
        Due.due("but for the last minute", x.read(0, 0), 0);
        x.write(0, 39, 0);
        x.write(0, 0, 1);
        Due.due("but for the first", x.read(0, 0), 0);
    }

    @Says(in = 33, value = "numbers of a sheet are 1 or 0, whether a WALL is ON DUTY in this MINUTE, the next one, ..:")
    static void readByTheRotaAsItIs() {
        WallShifts x = Built.heard(0);
        x.image();
        x.rota(0, 2);
        // On at 0 and 1, off at 2 and 3 are those of side 0 but the tapestry, and that of 3; at 4, too.
        Due.due("by a shift of 2 none is on at 4", withSheet(x, 8, 1, 1, 0, 0, 1).read(0, 0), 0);
        Due.due("on, on, off, off", withSheet(x, 8, 1, 1, 0, 0).read(0, 0), 6);
        x.rota(1, 1);
        Due.due("with a change of 1", withSheet(x, 8, 0, 1, 0, 0).read(0, 0), 6);
        x.rota(0, 15);
        Due.due("by a shift of 15 they are on at 2 still", x.read(0, 0), 0);
    }

    @Says(in = 33, value = "with how many pairs of a KIND and a SIDE of it that is just so.")
    static void readInWinter() {
        WallShifts x = withSheet(Built.of(0), 8, 1, 0, 0);
        x.rota(2, Built.WINTER);
        Due.due("stone of any side", x.read(0, 0), 4);
        x.write(0, 0, 0);
        // Off at 2, too: the norths, and of the others that aren't stone those of sides 1 to 3 less a tapestry.
        Due.due("never on", x.read(0, 0), 4 + 3 * 3 + 2);
    }

    @Says(in = 33, value = "numbers of a sheet are 1 or 0,")
    static void readOtherNumbersAreNeither() {
        Due.due("1 is", withSheet(Built.heard(0), 64, 1).read(0, 0), 7);
        for (long other : new long[] {2, -1, 1L << 32, (1L << 32) + 1, Long.MIN_VALUE, Long.MIN_VALUE + 1}) {
            Due.due("none is on, nor is it 0: " + other, withSheet(Built.of(0), 64, other).read(0, 0), 0);
            Due.due("seven are on, but it isn't 1: " + other, withSheet(Built.heard(0), 64, other).read(0, 0), 0);
        }
    }

    @Says(in = 33, value = "a KIND and a SIDE of it")
    static void readIsOfAnyWall() {
        WallShifts x = Built.of(Built.STONE, Built.TAPESTRY);
        x.set(0, 3, 2);
        x.set(1, 5, 99);
        x.sheet(0, 8, 40);
        x.book(0, 0);
        // Till 39 a tapestry of 2 is on when the others of 2 are.
        Due.due("by the stone", x.read(0, 0), 6);
        Due.due("by the tapestry", x.read(0, 1), 6);
        Edges.unchanged(Built::rich, y -> y.read(0, 0));
    }

    @Says(in = 33, value = "BEYOND: no such sheet.")
    static void readBeyondSheet() {
        Edges.range(Built::rich, 0, 3, (x, v) -> x.read(v, 0));
    }

    @Says(in = 33, value = "MISSING.")
    static void readMissing() {
        Edges.refused(Built::rich, x -> x.read(3, 0), Due.MISSING);
        Edges.refused(() -> gone(), x -> x.read(0, 0), Due.MISSING);
    }

    @Says(in = 33, value = "BEYOND: wall.")
    static void readBeyondWall() {
        Edges.range(Built::rich, 0, 2, (x, v) -> x.read(0, v));
        Edges.refused(() -> withSheet(8), x -> x.read(0, 0), Due.BEYOND);
    }
}
