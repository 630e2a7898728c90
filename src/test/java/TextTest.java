/** Promises 25 to 27: the tape, and a palace told in a text. */
public final class TextTest {
    private static final int MIN = Integer.MIN_VALUE;
    private static final int MAX = Integer.MAX_VALUE;

    public static void main(String[] args) {
        feed();
        feedTillFull();
        wipe();
        items();
        kinds();
        rotas();
        tokens();
        faults();
        faultsOfNumbers();
        endsTooEarly();
        eleventh();
        faultsChangeNothing();
        addsToWhatThereIs();
        Due.end("TextTest");
    }

    private static void feed() {
        WallShifts x = new WallShifts();
        for (int bad : new int[] {0, -1, 5, MIN, MAX}) {
            Due.due("P25 n " + bad, x.feed(0, bad), Due.BEYOND);
        }
        Due.due("P25 one", x.feed('s', 1), 1);
        Due.due("P25 two", x.feed('h' << 8 | 'i', 2), 3);
        Due.due("P25 the lowest of more", x.feed('x' << 16 | 'f' << 8 | 't', 2), 5);
        Due.due("P25 three", x.feed(' ' << 16 | '3' << 8 | '0', 3), 8);
        Due.due("P25 four, the highest of them below 0", x.feed((int) 0xff3b3b3bL, 4), 12);
        Due.due("P27 the byte 255 is no token", x.palace(), -9);
        Due.due("P25 one of many", x.feed(MIN | ';', 1), 1);
        Due.due("P27 a sign can't stand first", x.palace(), -1);
    }

    private static void feedTillFull() {
        WallShifts x = new WallShifts();
        for (int had = 4; had <= 116; had += 4) {
            Due.due("P25 fills", x.feed(0x20202020, 4), had);
        }
        Due.due("P25 118", x.feed(0x2020, 2), 118);
        Due.due("P25 four are too many", x.feed(0x20202020, 4), Due.FULL);
        Due.due("P25 three are too many", x.feed(0x202020, 3), Due.FULL);
        Due.due("P25 nothing of them comes", x.count(1), 118);
        Due.due("P25 119", x.feed(0x20, 1), 119);
        Due.due("P25 two are too many", x.feed(0x2020, 2), Due.FULL);
        Due.due("P25 120", x.feed(0x20, 1), 120);
        Due.due("P25 one is too many", x.feed(0x20, 1), Due.FULL);
        Due.due("P25 BEYOND is asked ahead of FULL", x.feed(0, 0), Due.BEYOND);
        Due.due("P27 120 blanks end too early", x.palace(), -121);
        StringBuilder text = new StringBuilder("shift 7");
        while (text.length() < 111) {
            text.append(' ');
        }
        text.append(";change 9");
        Due.due("P27 a text of 120 bytes", text.length(), 120);
        Due.due("P27 a full tape", told(x, text.toString()), 2);
        Due.due("P27 its last item", x.now(2), 9);
    }

    private static void wipe() {
        WallShifts x = new WallShifts();
        Due.due("P26 empty", x.wipe(), 0);
        Due.feed(x, "shift 9");
        Due.due("P26 seven", x.wipe(), 7);
        Due.due("P26 empty again", x.wipe(), 0);
        Due.due("P26 nothing is told", x.palace(), -1);
        Due.due("P26 nor changed", x.now(1), 15);
    }

    private static int told(WallShifts x, String text) {
        return Due.told(x, text);
    }

    private static void due(String text, int want) {
        Due.due("P27 \"" + text + "\"", told(new WallShifts(), text), want);
    }

    private static void wallIs(WallShifts x, int wall, int kind, int room, int other, int side) {
        int[] all = {kind, room, other, side, 0, 0};
        for (int what = 0; what < all.length; what++) {
            Due.due("P27 wall " + wall + " of " + what, x.of(wall, what), all[what]);
        }
    }

    private static void items() {
        WallShifts x = new WallShifts();
        Due.due("P27 six items", told(x, "thin of 1; stone of 2 and 3;tapestry of 4 side 3;"
                + "papered of 5 and 6 side 1;north of 9 and 0;wall of 7"), 6);
        Due.due("P27 six walls", x.count(0), 6);
        Due.due("P27 the tape is empty then", x.count(1), 0);
        wallIs(x, 0, 3, 1, 1, 0);
        wallIs(x, 1, 4, 2, 3, 0);
        wallIs(x, 2, 5, 4, 4, 3);
        wallIs(x, 3, 2, 5, 6, 1);
        wallIs(x, 4, 1, 9, 0, 0);
        wallIs(x, 5, 0, 7, 7, 0);
    }

    private static void kinds() {
        String[] names = {"wall", "north", "papered", "thin", "stone", "tapestry"};
        for (int kind = 0; kind < names.length; kind++) {
            WallShifts x = new WallShifts();
            Due.due("P27 " + names[kind], told(x, names[kind] + " of 0"), 1);
            Due.due("P27 the kind of " + names[kind], x.of(0, 0), kind);
            due(names[kind] + "s of 0", -1);
            due(names[kind].substring(1) + " of 0", -1);
            due(names[kind].substring(0, 3) + " of 0", -1);
        }
    }

    private static void rotas() {
        WallShifts x = new WallShifts();
        Due.due("P27 least", told(x, "shift 1;change 0;season 0"), 3);
        Due.due("P27 shift 1", x.now(1), 1);
        Due.due("P27 change 0", x.now(2), 0);
        Due.due("P27 season 0", x.now(3), 0);
        Due.due("P27 most", told(x, "season 3;change 60;shift 60"), 3);
        Due.due("P27 shift 60", x.now(1), 60);
        Due.due("P27 change 60", x.now(2), 60);
        Due.due("P27 season 3", x.now(3), 3);
        Due.due("P27 the last one stays", told(x, "shift 5;shift 6"), 2);
        Due.due("P27 shift 6", x.now(1), 6);
        due("courage 5", -1);
    }

    private static void tokens() {
        due("  shift   5  ", 1);
        due("shift5;change6", 2);
        due("wall of3and4side2;shift 5", 2);
        due("wall of 3 and4 side 2 ; shift 5", 2);
        due("wallof 3", -1);
        due("wall of 3 andside 2", -11);
        due("wall of 3 side2and 4", -16);
        due("wall of 0009", 1);
        due("shift 0000000000000000000000000000000060", 1);
        due("wall of 00000000000000000000000000000000001 and 01", 1);
        WallShifts x = new WallShifts();
        Due.due("P27 zeros ahead", told(x, "wall of 007 and 0000000000000000000000008 side 002"), 1);
        wallIs(x, 0, 0, 7, 8, 2);
    }

    private static void faults() {
        due(";", -1);
        due("5", -1);
        due("of 3", -1);
        due("shift of", -7);
        due("shift ;", -7);
        due("wall 3", -6);
        due("wall wall of 3", -6);
        due("wall off 3", -6);
        due("wall o 3", -6);
        due("wall of of", -9);
        due("wall of 3 4", -11);
        due("wall of 3 wall of 4", -11);
        due("wall of 3 or 4", -11);
        due("wall of 3 and side 2", -15);
        due("wall of 3 and 4 and 5", -17);
        due("wall of 3 side and", -16);
        due("wall of 3 side 2 side 2", -18);
        due("wall of 3 side 2 and 4", -18);
        due("wall of 3 and 4 side 2 3", -24);
        due("wall of 3;;wall of 4", -11);
        due("wall of 3;5", -11);
        due("shift 5 6", -9);
        due("shift 5 side 2", -9);
        due("season 2 and 3", -10);
        due("Wall of 3", -1);
        due("wall oF 3", -6);
        due("wallz of 3", -1);
        due("zwall of 3", -1);
        due("xall of 3", -1);
        due("wall of 3.", -10);
        due("wall of 3 ,", -11);
        due("wall of -3", -9);
        due("wall\tof 3", -5);
        due("wall\nof 3", -5);
        due("wall of 3\u0000", -10);
        due("\u00e9", -1);
        due("`wall of 3", -1);
        due("{", -1);
        due("wall of /", -9);
        due("wall of :", -9);
        due("shift 5; wall of 3; north of 4 and", -35);
        due("shift 5; wall of 3; north of 4 and x", -36);
    }

    private static void faultsOfNumbers() {
        due("wall of 9", 1);
        due("wall of 10", -9);
        due("wall of 3 and 9", 1);
        due("wall of 3 and 10", -15);
        due("wall of 0", 1);
        due("wall of 0 and 0 side 0", 1);
        due("wall of 3 side 3", 1);
        due("wall of 3 side 4", -16);
        due("wall of 3 and 4 side 4", -22);
        due("shift 0", -7);
        due("shift 61", -7);
        due("change 61", -8);
        due("season 4", -8);
        due("shift 999", -7);
        due("shift 1000", -7);
        due("shift 4294967301", -7);
        due("shift 18446744073709551621", -7);
        due("wall of 4294967296", -9);
        due("wall of 18446744073709551616", -9);
        due("change 10000000000000000000000000000000000000", -8);
    }

    private static void endsTooEarly() {
        due("", -1);
        due("   ", -4);
        due("wall", -5);
        due("wall ", -6);
        due("wall of", -8);
        due("wall of 3 and", -14);
        due("wall of 3 and 4 side", -21);
        due("wall of 3 side", -15);
        due("wall of 3 side  ", -17);
        due("shift", -6);
        due("change", -7);
        due("season", -7);
        due("shift 5;", -9);
        due("shift 5; ", -10);
        // "wal" is another word, not one that ends too early.
        due("wal", -1);
        due("wall o", -6);
    }

    private static void eleventh() {
        String five = "wall of 0;wall of 1;wall of 2;wall of 3;wall of 4";
        WallShifts x = new WallShifts();
        Due.due("P27 five", told(x, five), 5);
        Due.due("P27 five and an eleventh", told(x, five + ";wall of 5 ;shift 9"), -51);
        Due.due("P27 none of them came", x.count(0), 5);
        Due.due("P27 five more", told(x, five), 5);
        Due.due("P27 the name of the eleventh", told(x, "  stone 77"), -3);
        Due.due("P27 no name of a kind", told(x, " stones of 7"), -2);
        Due.due("P27 behind others", told(x, "shift 9; wall"), -10);
        Due.due("P27 the shift stays", x.now(1), 15);
        Due.due("P27 no walls, but a shift", told(x, "shift 9"), 1);
        Due.due("P27 ten", x.count(0), 10);
        for (int wall = 0; wall < 10; wall++) {
            wallIs(x, wall, 0, wall % 5, wall % 5, 0);
        }
        Due.due("P27 eleven in one text", told(new WallShifts(), five + ";" + five + ";wall of 3"), -101);
    }

    private static void faultsChangeNothing() {
        WallShifts x = new WallShifts();
        x.wall(3, 1, 2);
        x.set(0, 4, 9);
        Due.due("P27 a late fault", told(x, "shift 9;change 9;season 1;wall of 1;x"), -37);
        Due.due("P27 the tape is empty", x.count(1), 0);
        Due.due("P27 shift", x.now(1), 15);
        Due.due("P27 change", x.now(2), 2);
        Due.due("P27 season", x.now(3), 0);
        Due.due("P27 walls", x.count(0), 1);
        Due.due("P27 file", x.of(0, 4), 9);
        Due.due("P27 a fault is no finding", x.status(-1), 0);
    }

    private static void addsToWhatThereIs() {
        WallShifts x = new WallShifts();
        x.wall(3, 1, 2);
        x.set(0, 4, 9);
        x.set(0, 5, 8);
        x.rota(3, 7);
        x.pass(5);
        Due.due("P27 one more", told(x, "thin of 2 and 3 side 1;change 8"), 2);
        Due.due("P27 two walls", x.count(0), 2);
        wallIs(x, 1, 3, 2, 3, 1);
        Due.due("P27 the first one's file", x.of(0, 4), 9);
        Due.due("P27 the first one is as tired", x.of(0, 5), 8);
        Due.due("P27 courage", x.now(4), 7);
        Due.due("P27 minute", x.now(0), 5);
        Due.due("P27 change", x.now(2), 8);
        Due.due("P27 reach", x.reach(3), 2 | 4 | 8);
    }
}
