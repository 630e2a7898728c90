/** Promises 28 to 33: sheets, and what of them comes to files, books and the reader. */
public final class SheetsTest {
    private static final int MIN = Integer.MIN_VALUE;
    private static final int MAX = Integer.MAX_VALUE;

    public static void main(String[] args) {
        sheet();
        write();
        writeLowestBits();
        copy();
        copyFindings();
        lays();
        book();
        read();
        readWinter();
        Due.end("SheetsTest");
    }

    private static void sheet() {
        WallShifts x = new WallShifts();
        for (int bits : new int[] {8, 16, 64}) {
            Due.due("P28 most", x.sheet(3, bits, 40), 40);
            Due.due("P28 its last number", x.write(3, 39, 5), 0);
            Due.due("P28 no further one", x.write(3, 40, 5), Due.BEYOND);
            Due.due("P28 anew", x.sheet(3, bits, 40), 40);
            Due.due("P28 all 0 anew", x.write(3, 39, 5), 0);
            Due.due("P28 fewer", x.sheet(3, bits, 1), 1);
            Due.due("P28 one", x.write(3, 0, 5), 0);
            Due.due("P28 not two", x.write(3, 1, 5), Due.BEYOND);
            Due.due("P28 more", x.sheet(3, bits, 40), 40);
            Due.due("P28 none of the old ones", x.write(3, 39, 0) + x.write(3, 0, 0), 0);
            Due.due("P28 empty, not missing", x.sheet(3, bits, 0), 0);
            Due.due("P28 no number", x.write(3, 0, 5), Due.BEYOND);
            Due.due("P28 missing", x.sheet(3, 0, 7), 0);
            Due.due("P28 it's missing", x.write(3, 0, 5), Due.MISSING);
        }
        for (int bad : new int[] {-1, 4, MIN, MAX}) {
            Due.due("P28 sheet " + bad, x.sheet(bad, 8, 1), Due.BEYOND);
            Due.due("P28 BEYOND is asked ahead of SIZE", x.sheet(bad, 8, -1), Due.BEYOND);
        }
        for (int bad : new int[] {-1, 1, 7, 9, 15, 17, 32, 63, 65, MIN, MAX}) {
            Due.due("P28 bits " + bad, x.sheet(0, bad, 1), Due.BEYOND);
            Due.due("P28 BEYOND is asked ahead of SIZE, bits " + bad, x.sheet(0, bad, -1), Due.BEYOND);
        }
        x.sheet(0, 8, 3);
        x.write(0, 2, 77);
        for (int bits : new int[] {0, 8, 16, 64}) {
            Due.due("P28 below 0", x.sheet(0, bits, -1), Due.SIZE);
            Due.due("P28 far below 0", x.sheet(0, bits, MIN), Due.SIZE);
            Due.due("P28 above 40", x.sheet(0, bits, 41), Due.BEYOND);
            Due.due("P28 far above 40", x.sheet(0, bits, MAX), Due.BEYOND);
        }
        Due.due("P28 findings leave it alone", x.write(0, 2, 0), 77);
        Due.due("P28 SIZE counted", x.status(6), 8);
        Due.due("P28 missing of 40", x.sheet(0, 0, 40), 0);
    }

    private static void write() {
        WallShifts x = new WallShifts();
        Due.due("P29 missing", x.write(0, 0, 1), Due.MISSING);
        Due.due("P29 missing is asked ahead of the number", x.write(0, -1, 1), Due.MISSING);
        x.sheet(0, 64, 2);
        for (int bad : new int[] {-1, 4, MIN, MAX}) {
            Due.due("P29 sheet " + bad, x.write(bad, 0, 1), Due.BEYOND);
        }
        for (int bad : new int[] {-1, 2, 40, MIN, MAX}) {
            Due.due("P29 number " + bad, x.write(0, bad, 1), Due.BEYOND);
        }
        Due.due("P29 it was 0", x.write(0, 0, 5), 0);
        Due.due("P29 the other one", x.write(0, 1, 6), 0);
        Due.due("P29 it was 5", x.write(0, 0, 7), 5);
        Due.due("P29 it was 6", x.write(0, 1, 7), 6);
        Due.due("P29 MISSING counted", x.status(5), 2);
        // A number that looks like a finding is none.
        x.write(0, 0, Due.SIZE);
        Due.due("P29 no finding", x.write(0, 0, 0), Due.SIZE);
        Due.due("P29 nor counted", x.status(6), 0);
    }

    private static void writeLowestBits() {
        long[] v = {1, 127, 128, 255, 256, -1, -128, -129, 32767, 32768, 65535, 65536, 0x123456789abcdefL,
            Long.MIN_VALUE, Long.MAX_VALUE};
        WallShifts x = new WallShifts();
        for (long one : v) {
            x.sheet(0, 8, 1);
            x.sheet(1, 16, 1);
            x.sheet(2, 64, 1);
            for (int s = 0; s < 3; s++) {
                Due.due("P29 it was 0", x.write(s, 0, one), 0);
            }
            Due.due("P29 8 bits of " + one, x.write(0, 0, 0), (byte) one);
            Due.due("P29 16 bits of " + one, x.write(1, 0, 0), (short) one);
            Due.due("P29 64 bits of " + one, x.write(2, 0, 0), one);
        }
    }

    private static WallShifts counted(int bits) {
        WallShifts x = new WallShifts();
        x.sheet(0, bits, 10);
        x.sheet(1, bits, 5);
        for (int i = 0; i < 10; i++) {
            x.write(0, i, i + 1);
        }
        return x;
    }

    private static void rowIs(String what, WallShifts x, int s, long... row) {
        for (int i = 0; i < row.length; i++) {
            long was = x.write(s, i, 0);
            x.write(s, i, was);
            Due.due(what + ", number " + i, was, row[i]);
        }
    }

    private static void copy() {
        for (int bits : new int[] {8, 16, 64}) {
            WallShifts x = counted(bits);
            Due.due("P30 three", x.copy(0, 6, 1, 1, 3), 3);
            rowIs("P30 to another", x, 1, 0, 7, 8, 9, 0);
            rowIs("P30 from one", x, 0, 1, 2, 3, 4, 5, 6, 7, 8, 9, 10);
            Due.due("P30 up in the same", x.copy(0, 0, 0, 2, 8), 8);
            rowIs("P30 as they all were", x, 0, 1, 2, 1, 2, 3, 4, 5, 6, 7, 8);
            Due.due("P30 down in the same", x.copy(0, 1, 0, 0, 9), 9);
            rowIs("P30 as they all were, down", x, 0, 2, 1, 2, 3, 4, 5, 6, 7, 8, 8);
            Due.due("P30 none, at the end", x.copy(0, 10, 1, 5, 0), 0);
            Due.due("P30 all", x.copy(0, 5, 1, 0, 5), 5);
            rowIs("P30 all of it", x, 1, 5, 6, 7, 8, 8);
            Due.due("P30 onto itself", x.copy(0, 0, 0, 0, 10), 10);
            rowIs("P30 the same", x, 0, 2, 1, 2, 3, 4, 5, 6, 7, 8, 8);
        }
    }

    private static void copyFindings() {
        WallShifts x = counted(8);
        for (int bad : new int[] {-1, 4, MIN, MAX}) {
            Due.due("P30 from sheet " + bad, x.copy(bad, 0, 2, 0, 1), Due.BEYOND);
            Due.due("P30 to sheet " + bad, x.copy(2, 0, bad, 0, 1), Due.BEYOND);
        }
        Due.due("P30 the first is missing", x.copy(2, 0, 0, -1, 1), Due.MISSING);
        Due.due("P30 the second is missing", x.copy(0, -1, 2, 0, 1), Due.MISSING);
        x.sheet(2, 16, 5);
        x.sheet(3, 64, 5);
        Due.due("P30 8 to 16", x.copy(0, 0, 2, 0, 1), Due.KIND);
        Due.due("P30 16 to 8", x.copy(2, 0, 0, 0, 1), Due.KIND);
        Due.due("P30 16 to 64", x.copy(2, 0, 3, 0, 1), Due.KIND);
        Due.due("P30 KIND is asked ahead of BEYOND", x.copy(0, -1, 3, 0, 99), Due.KIND);
        int[][] bad = {{-1, 0, 1}, {0, -1, 1}, {0, 0, -1}, {10, 0, 1}, {0, 5, 1}, {11, 0, 0}, {0, 6, 0},
            {6, 0, 5}, {0, 1, 5}, {0, 0, 6}, {MAX, 0, 1}, {1, 0, MAX}, {0, MAX, MAX}, {MIN, MIN, MIN},
            {0, 0, MIN}, {MIN, 0, 1}, {0, MIN, 1}, {MAX, MAX, MAX}};
        for (int[] one : bad) {
            Due.due("P30 " + one[0] + ", " + one[1] + ", " + one[2],
                    x.copy(0, one[0], 1, one[1], one[2]), Due.BEYOND);
        }
        rowIs("P30 findings change nothing", x, 1, 0, 0, 0, 0, 0);
        rowIs("P30 findings change nothing", x, 0, 1, 2, 3, 4, 5, 6, 7, 8, 9, 10);
    }

    private static void lays() {
        WallShifts x = new WallShifts();
        for (int bad : new int[] {-1, 4, MIN, MAX}) {
            Due.due("P31 sheet " + bad, x.lays(bad), Due.BEYOND);
        }
        Due.due("P31 missing", x.lays(0), Due.MISSING);
        x.sheet(0, 64, 6);
        Due.due("P31 no walls", x.lays(0), 0);
        for (int i = 0; i < 5; i++) {
            x.wall(i, 0, 0);
            x.set(i, 4, 100 + i);
            x.set(i, 5, 7);
        }
        long[] numbers = {0, 65535, 65536, -1, 1L << 32 | 5, 9};
        for (int i = 0; i < numbers.length; i++) {
            x.write(0, i, numbers[i]);
        }
        Due.due("P31 two come", x.lays(0), 2);
        int[] files = {0, 65535, 102, 103, 104};
        for (int i = 0; i < 5; i++) {
            Due.due("P31 file " + i, x.of(i, 4), files[i]);
            Due.due("P31 as tired as it was " + i, x.of(i, 5), 7);
        }
        x.sheet(1, 8, 3);
        x.write(1, 0, 3);
        x.write(1, 1, 4);
        x.write(1, 2, 5);
        Due.due("P31 fewer numbers than walls", x.lays(1), 3);
        Due.due("P31 the rest stays", x.of(3, 4), 103);
        Due.due("P31 the third", x.of(2, 4), 5);
        x.sheet(2, 16, 0);
        Due.due("P31 an empty sheet", x.lays(2), 0);
    }

    private static void book() {
        WallShifts x = new WallShifts();
        x.wall(0, 0, 0);
        for (int bad : new int[] {-1, 4, MIN, MAX}) {
            Due.due("P32 sheet " + bad, x.book(bad, 0), Due.BEYOND);
        }
        Due.due("P32 missing", x.book(0, 0), Due.MISSING);
        Due.due("P32 MISSING is asked ahead of the wall", x.book(0, 1), Due.MISSING);
        x.sheet(0, 8, 20);
        for (int bad : new int[] {-1, 1, 10, MIN, MAX}) {
            Due.due("P32 wall " + bad, x.book(0, bad), Due.BEYOND);
        }
        x.wall(0, 0, 0);
        x.set(1, 3, 1);
        x.pass(1);
        Due.due("P32 twenty", x.book(0, 0), 20);
        rowIs("P32 side 0 from 1 on", x, 0, 0, 1, 1, 1, 1, 1, 1, 1, 1, 1, 1, 1, 1, 1, 0, 0, 0, 0, 0, 0);
        Due.due("P32 twenty again", x.book(0, 1), 20);
        rowIs("P32 side 1 from 1 on", x, 0, 0, 0, 0, 0, 0, 0, 0, 0, 0, 0, 0, 0, 0, 0, 0, 0, 1, 1, 1, 1);
        Due.due("P32 no minute goes", x.now(0), 1);
        for (int bits : new int[] {16, 64}) {
            x.sheet(0, bits, 3);
            Due.due("P32 three", x.book(0, 0), 3);
            rowIs("P32 from 1 on", x, 0, 0, 1, 1);
        }
        x.sheet(0, 8, 0);
        Due.due("P32 an empty sheet", x.book(0, 0), 0);
        bookAtTheLastMinute();
    }

    private static void bookAtTheLastMinute() {
        WallShifts x = new WallShifts();
        x.wall(0, 0, 0);
        Due.passTo(x, 99999);
        x.sheet(0, 8, 7);
        x.set(0, 3, 2);
        Due.due("P32 behind the last minute", x.book(0, 0), 7);
        rowIs("P32 from 99999 on", x, 0, 1, 1, 1, 1, 1, 1, 0);
    }

    private static void read() {
        WallShifts x = new WallShifts();
        x.wall(0, 0, 0);
        for (int bad : new int[] {-1, 4, MIN, MAX}) {
            Due.due("P33 sheet " + bad, x.read(bad, 0), Due.BEYOND);
        }
        Due.due("P33 missing", x.read(0, 0), Due.MISSING);
        Due.due("P33 MISSING is asked ahead of the wall", x.read(0, 1), Due.MISSING);
        x.sheet(0, 8, 0);
        for (int bad : new int[] {-1, 1, 10, MIN, MAX}) {
            Due.due("P33 wall " + bad, x.read(0, bad), Due.BEYOND);
        }
        Due.due("P33 an empty sheet is as any", x.read(0, 0), 24);
        x.sheet(0, 8, 2);
        Due.due("P33 two minutes of change", x.read(0, 0), 24);
        x.sheet(0, 8, 3);
        // Off at 2 are those of sides 1, 2, 3, but the tapestry of side 3.
        Due.due("P33 off at 2", x.read(0, 0), 17);
        x.write(0, 2, 1);
        Due.due("P33 on at 2: six of side 0, a tapestry of 3", x.read(0, 0), 7);
        x.write(0, 1, 1);
        Due.due("P33 none is on at 1", x.read(0, 0), 0);
        x.write(0, 0, 1);
        x.write(0, 1, 0);
        Due.due("P33 nor at 0, the first", x.read(0, 0), 0);
        x.write(0, 0, 0);
        x.write(0, 1, 2);
        Due.due("P33 2 is neither 1 nor 0", x.read(0, 0), 0);
        x.sheet(0, 64, 3);
        x.write(0, 2, 1L << 32 | 1);
        Due.due("P33 nor is one above 32 bits", x.read(0, 0), 0);
        x.sheet(0, 64, 40);
        x.pass(2);
        x.book(0, 0);
        // From 2 to 41 a tapestry of side 3 is on when those of side 0 are.
        Due.due("P33 side 0, and a tapestry of 3 for one of 0", x.read(0, 0), 6);
        Due.due("P33 whichever wall", x.wall(5, 1, 1) + x.read(0, 1), 7);
        x.book(0, 1);
        Due.due("P33 a tapestry of 0 alone", x.read(0, 0), 1);
        Due.due("P33 nothing changes", x.now(0) + x.of(0, 0) + x.of(0, 3), 2);
    }

    private static void readWinter() {
        WallShifts x = new WallShifts();
        x.rota(2, 3);
        x.wall(1, 0, 0);
        x.sheet(0, 16, 40);
        x.book(0, 0);
        // Never on from 0 to 39: north (4), and of the kinds 0, 2, 3 those of side 3.
        Due.due("P33 winter: never on", x.read(0, 0), 7);
        x.turn(0, 4);
        x.book(0, 0);
        Due.due("P33 winter: four sides of stone", x.read(0, 0), 4);
    }
}
