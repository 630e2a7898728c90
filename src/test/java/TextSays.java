/** The text of a palace, in the Terms and the promises 25 to 27, sentence by sentence. */
final class TextSays {
    private TextSays() {
    }

    /** What palace() answers to a text, in an empty palace. */
    private static void told(String text, int want) {
        Due.due("\"" + text + "\"", Due.told(new WallShifts(), text), want);
    }

    /** A text's fault stands at this place, from 0. */
    private static void faultAt(int place, String text) {
        told(text, -1 - place);
    }

    /** A text of one item that builds a wall. */
    private static void builds(String text, int kind, int room, int other, int side) {
        WallShifts x = new WallShifts();
        Due.due("\"" + text + "\"", Due.told(x, text), 1);
        int[] all = {kind, room, other, side, 0, 0};
        for (int what = 0; what < all.length; what++) {
            Due.due("\"" + text + "\", of 0, " + what, x.of(0, what), all[what]);
        }
        Due.due("walls", x.count(0), 1);
    }

    private static String many(String text, int times) {
        return text.repeat(times);
    }

    // ---- the Terms: the tape and its tokens

    @Says(in = Says.TERMS, value = "THE TEXT of a PALACE, from THE TAPE (bytes, at most 120).")
    static void tapeOf120Bytes() {
        String text = "shift 7;" + many(" ", 103) + "change 60";
        Due.due("a text of 120 bytes", text.length(), 120);
        WallShifts x = new WallShifts();
        Due.feed(x, text);
        Due.due("no 121st", x.feed('0', 1), Due.FULL);
        Due.due("told to its end", x.palace(), 2);
        Due.due("the last item", x.now(2), 60);
    }

    @Says(in = Says.TERMS, value = "TOKENS, each as long as can be: WORDS of the text (letters a to z),")
    static void tokensOfLetters() {
        faultAt(0, "wallof 3");
        faultAt(5, "wall off 3");
        faultAt(10, "wall of 3 andside 2");
        faultAt(10, "wall of 3 an d 4");
        faultAt(0, "walla of 3");
        faultAt(0, "wallz of 3");
        faultAt(0, "awall of 3");
        faultAt(0, "zwall of 3");
        // The bytes just outside a to z are no letters; nor are the great ones.
        faultAt(4, "wall` of 3");
        faultAt(4, "wall{ of 3");
        faultAt(0, "`wall of 3");
        faultAt(0, "{wall of 3");
        faultAt(0, "Wall of 3");
        faultAt(4, "wallL of 3");
        faultAt(9, "wall of 3A");
    }

    @Says(in = Says.TERMS, value = "TOKENS, each as long as can be:")
    static void tokensNeedNoBlankBetweenUnlikeOnes() {
        builds("wall of3and4side2", 0, 3, 4, 2);
        told("shift5;change6;season1", 3);
        faultAt(9, "wall of 3z");
        faultAt(7, "shift 5z");
    }

    @Says(in = Says.TERMS, value = "NUMBERS (digits, 999 at most),")
    static void tokensOfDigits() {
        WallShifts x = new WallShifts();
        Due.due("two digits", Due.told(x, "shift 60"), 1);
        Due.due("one number", x.now(1), 60);
        faultAt(8, "shift 6 0");
        faultAt(6, "shift 999");
        faultAt(6, "shift 1000");
        faultAt(6, "shift /");
        faultAt(6, "shift :");
        faultAt(7, "shift 6/");
        faultAt(7, "shift 6:");
        faultAt(6, "shift -5");
        faultAt(6, "shift +5");
    }

    @Says(in = Says.TERMS, value = "NUMBERS (digits, 999 at most),")
    static void tokensOfManyDigits() {
        // However long, a number is one token; none comes round to a small one.
        faultAt(6, "shift 256");
        faultAt(6, "shift 65541");
        faultAt(6, "shift 4294967301");
        faultAt(6, "shift 18446744073709551621");
        faultAt(6, "shift 5" + many("0", 113));
        faultAt(6, "shift " + many("9", 114));
        WallShifts x = new WallShifts();
        Due.due("zeros ahead", Due.told(x, "shift " + many("0", 112) + "60"), 1);
        Due.due("are none", x.now(1), 60);
        builds("wall of 009 and 0000 side 03", 0, 9, 0, 3);
    }

    @Says(in = Says.TERMS, value = "SIGN ; ;")
    static void tokensOfASign() {
        told("shift 5;change 6", 2);
        told("shift 5 ;change 6", 2);
        told("shift 5 ; change 6", 2);
        faultAt(8, "shift 5;;change 6");
        faultAt(9, "shift 5; ;change 6");
        faultAt(7, "shift 5:change 6");
        faultAt(7, "shift 5,change 6");
    }

    @Says(in = Says.TERMS, value = "blanks may stand between.")
    static void blanksBetween() {
        builds("wall    of     3  and 4    side   2", 0, 3, 4, 2);
        told("shift 5   ;   change 6", 2);
        // Chosen, as NOTES.md tells: ahead of the first and behind the last, too.
        builds("   wall of 3", 0, 3, 3, 0);
        builds("wall of 3   ", 0, 3, 3, 0);
        // Nothing but byte 32 is one.
        for (char other : new char[] {0, 9, 10, 13, 31, 33, 127, 128, 160, 255}) {
            faultAt(4, "wall" + other + "of 3");
            faultAt(9, "wall of 3" + other);
        }
    }

    // ---- the Terms: items

    @Says(in = Says.TERMS, value = "TEXT: ITEM { ; ITEM }.")
    static void textOfOneAndOfManyItems() {
        told("shift 5", 1);
        told("shift 5;shift 6", 2);
        told(many("shift1;", 16) + "shift1", 17);
        faultAt(0, ";");
        faultAt(0, ";shift 5");
        faultAt(8, "shift 5 shift 6");
        faultAt(10, "wall of 3 wall of 4");
        faultAt(8, "shift 5;");
        faultAt(0, "");
    }

    @Says(in = Says.TERMS, value = "ITEM: the name of a KIND (wall north papered thin stone tapestry), of, "
            + "a NUMBER (a ROOM),")
    static void itemNamesAKindAndARoom() {
        String[] names = {"wall", "north", "papered", "thin", "stone", "tapestry"};
        for (int kind = 0; kind <= 5; kind++) {
            builds(names[kind] + " of 0", kind, 0, 0, 0);
            builds(names[kind] + " of 9", kind, 9, 9, 0);
            int length = names[kind].length();
            faultAt(length + 4, names[kind] + " of 10");
            faultAt(length + 1, names[kind] + " 3");
            faultAt(length + 4, names[kind] + " of of");
            faultAt(0, names[kind] + "s of 3");
            faultAt(0, names[kind].substring(0, length - 1) + " of 3");
        }
    }

    @Says(in = Says.TERMS, value = "perhaps the word and, with a NUMBER (the other one; without it the same),")
    static void itemWithTheOtherRoom() {
        builds("thin of 3 and 0", 3, 3, 0, 0);
        builds("thin of 3 and 9", 3, 3, 9, 0);
        builds("thin of 3 and 3", 3, 3, 3, 0);
        builds("thin of 3", 3, 3, 3, 0);
        faultAt(14, "thin of 3 and 10");
        faultAt(14, "thin of 3 and and 4");
        faultAt(14, "thin of 3 and side 2");
        faultAt(10, "thin of 3 4");
        faultAt(16, "thin of 3 and 4 and 5");
        faultAt(10, "thin of 3 or 4");
    }

    @Says(in = Says.TERMS, value = "perhaps side and a NUMBER (0 to 3; 0 without): a new WALL;")
    static void itemWithASide() {
        builds("thin of 3 side 0", 3, 3, 3, 0);
        builds("thin of 3 side 3", 3, 3, 3, 3);
        builds("thin of 3 and 4 side 3", 3, 3, 4, 3);
        builds("thin of 3 and 4", 3, 3, 4, 0);
        faultAt(15, "thin of 3 side 4");
        faultAt(15, "thin of 3 side side 2");
        faultAt(15, "thin of 3 side ;");
        faultAt(17, "thin of 3 side 2 side 2");
        // The other room comes first, if it comes.
        faultAt(17, "thin of 3 side 2 and 4");
        faultAt(10, "thin of 3 sides 2");
    }

    @Says(in = Says.TERMS, value = "a new WALL;")
    static void itemsBuildInTheirOrder() {
        WallShifts x = Built.of(Built.WALL);
        Due.due("three", Due.told(x, "stone of 1;north of 2 side 1;tapestry of 3 and 4"), 3);
        int[] kinds = {0, 4, 1, 5};
        for (int wall = 0; wall < 4; wall++) {
            Due.due("wall " + wall, x.of(wall, 0), kinds[wall]);
            Due.due("room of " + wall, x.of(wall, 1), wall);
        }
    }

    @Says(in = Says.TERMS, value = "shift and a NUMBER (1 to 60);")
    static void itemShift() {
        rota("shift", 1, 1, 60);
        faultAt(6, "shift 0");
        faultAt(6, "shift 00");
    }

    @Says(in = Says.TERMS, value = "change and a NUMBER (0 to 60);")
    static void itemChange() {
        rota("change", 2, 0, 60);
    }

    @Says(in = Says.TERMS, value = "season and a NUMBER (0 to 3).")
    static void itemSeason() {
        rota("season", 3, 0, 3);
        // There's no such item for what else rota() turns.
        faultAt(0, "courage 5");
        faultAt(0, "minute 5");
    }

    private static void rota(String name, int what, int least, int most) {
        for (int v : new int[] {least, most}) {
            WallShifts x = new WallShifts();
            Due.due(name + " " + v, Due.told(x, name + " " + v), 1);
            long[] now = {0, 15, 2, 0, 5, 0, 0};
            now[what] = v;
            for (int i = 0; i < now.length; i++) {
                Due.due(name + " " + v + ", now " + i, x.now(i), now[i]);
            }
        }
        int place = name.length() + 1;
        faultAt(place, name + " " + (most + 1));
        faultAt(place, name + " " + name);
        faultAt(place, name + " of 5");
        faultAt(place, name + " ;");
        faultAt(place + 2, name + " 3 4");
        faultAt(place + 2, name + " 3 and 4");
        faultAt(place + 2, name + " 3 side 2");
        faultAt(0, name + "s 3");
        faultAt(0, name.substring(1) + " 3");
    }

    // ---- the Terms: faults

    @Says(in = Says.TERMS, value = "FAULT: the place (from 0) of the first byte of the first TOKEN that can't stand there")
    static void faultOfTheFirstToken() {
        faultAt(0, "x");
        faultAt(3, "   xyz");
        faultAt(11, "shift 5;   xyz 7");
        // Of several the first.
        faultAt(5, "wall 3 and 99 side 9");
        faultAt(8, "wall of 99 and 99 side 9");
        faultAt(6, "shift 0;x;y");
        // In the last byte of 120.
        faultAt(119, "shift 5;" + many(" ", 111) + "x");
    }

    @Says(in = Says.TERMS, value = "(a NUMBER that may not be,")
    static void faultOfANumber() {
        faultAt(8, "wall of 10");
        faultAt(14, "wall of 3 and 10");
        faultAt(15, "wall of 3 side 4");
        faultAt(6, "shift 0");
        faultAt(6, "shift 61");
        faultAt(7, "change 61");
        faultAt(7, "season 4");
        faultAt(0, "5");
        faultAt(5, "wall 5 of 3");
        faultAt(8, "shift 5 5");
        faultAt(8, "shift 5;5");
    }

    @Says(in = Says.TERMS, value = "another WORD,")
    static void faultOfAnotherWord() {
        faultAt(0, "room of 3");
        faultAt(0, "of 3");
        faultAt(0, "and 3");
        faultAt(0, "side 3");
        faultAt(5, "wall and 3");
        faultAt(8, "wall of of 3");
        faultAt(10, "wall of 3 with 4");
        faultAt(6, "shift of");
        // A word that might have gone on is another word, not a text that ends too early.
        faultAt(0, "wal");
        faultAt(5, "wall o");
        faultAt(10, "wall of 3 an");
    }

    @Says(in = Says.TERMS, value = "another WORD,")
    static void faultOfAWordWithAnotherLetter() {
        String[] texts = {"wall", "north", "papered", "thin", "stone", "tapestry", "shift", "change", "season",
            "wall of", "wall of 3 and", "wall of 3 side", "wall of 3 and 4 side"};
        for (String text : texts) {
            int begin = text.lastIndexOf(' ') + 1;
            for (int i = begin; i < text.length(); i++) {
                faultAt(begin, text.substring(0, i) + "z" + text.substring(i + 1) + " 3");
                faultAt(begin, text.substring(0, i) + text.substring(i + 1) + " 3");
            }
        }
    }

    @Says(in = Says.TERMS, value = "a byte that begins no TOKEN,")
    static void faultOfAByte() {
        for (int b : new int[] {0, 1, 9, 10, 31, 33, 47, 58, 60, 64, 65, 90, 96, 123, 127, 128, 192, 255}) {
            String bad = String.valueOf((char) b);
            faultAt(0, bad);
            faultAt(5, "wall " + bad);
            faultAt(4, "wall" + bad + "of 3");
            faultAt(9, "wall of 3" + bad);
            faultAt(10, "wall of 3 " + bad);
            faultAt(8, "shift 5;" + bad);
        }
    }

    @Says(in = Says.TERMS, value = "the name of a KIND for an 11th: its own),")
    static void faultOfAnEleventh() {
        String five = "wall of 0;wall of 1;wall of 2;wall of 3;wall of 4";
        told(five + ";" + five, 10);
        faultAt(100, five + ";" + five + ";stone of 5");
        faultAt(100, five + ";" + five + ";stone 99 x");
        faultAt(101, five + ";" + five + "; stone");
        WallShifts nine = Built.of(0, 0, 0, 0, 0, 0, 0, 0, 0);
        Due.due("a tenth and an eleventh", Due.told(nine, "thin of 5;  thin of 6;shift 9"), -13);
        Due.due("the tenth didn't come", nine.count(0), 9);
        Due.due("a tenth", Due.told(nine, "thin of 5"), 1);
        for (String name : new String[] {"wall", "north", "papered", "thin", "stone", "tapestry"}) {
            Due.due(name + " for an eleventh", Due.told(Built.full(), "shift 9; " + name + " of 5"), -10);
        }
        Due.due("another item is none", Due.told(Built.full(), "shift 9;change 3;season 1"), 3);
    }

    @Says(in = Says.TERMS, value = "or how many bytes there are if it ends too early.")
    static void faultOfATextThatEndsTooEarly() {
        for (String text : new String[] {"", " ", "    ", "wall", "wall ", "wall of", "wall of  ", "wall of 3 and",
            "wall of 3 and ", "wall of 3 side", "wall of 3 side ", "wall of 3 and 4 side", "shift", "shift ", "change",
            "season", "shift 5;", "shift 5; ", "wall of 3;", "wall of 3;wall"}) {
            faultAt(text.length(), text);
        }
        faultAt(120, "shift 5;" + many(" ", 112));
        faultAt(120, many(" ", 116) + "wall");
    }

    // ---- promise 25

    @Says(in = 25, value = "THE TAPE gets the n lowest bytes of a number behind it, the highest of these first (n 1 to 4):")
    static void feedTheLowestBytes() {
        // Of '?', 'x', ';', 'y' only the lowest come, in this order: the place of the fault tells.
        int bytes = '?' << 24 | 'x' << 16 | ';' << 8 | 'y';
        int[] want = {-9, -9, -9, -8};
        for (int n = 1; n <= 4; n++) {
            WallShifts x = new WallShifts();
            Due.feed(x, "shift 5");
            x.feed(n == 4 ? 0x3b202020 : ';', n == 4 ? 4 : 1);
            Due.due("so many", x.feed(bytes, n), (n == 4 ? 11 : 8) + n);
        }
        WallShifts x = new WallShifts();
        x.feed(0x3f3f3f00 | 's', 1);
        x.feed(0x3f3f0000 | 'h' << 8 | 'i', 2);
        x.feed(0x3f000000 | 'f' << 16 | 't' << 8 | ' ', 3);
        x.feed('0' << 24 | '0' << 16 | '4' << 8 | '2', 4);
        Due.due("told", x.palace(), 1);
        Due.due("in their order", x.now(1), 42);
    }

    @Says(in = 25, value = "THE TAPE gets the n lowest bytes of a number behind it, the highest of these first (n 1 to 4):")
    static void feedOfANumberBelowZero() {
        WallShifts x = new WallShifts();
        Due.due("four", x.feed(-1, 4), 4);
        Due.due("the byte 255", x.palace(), -1);
        Due.due("one", x.feed(Integer.MIN_VALUE | 'w', 1), 1);
        Due.due("three", x.feed(0xff000000 | 'a' << 16 | 'l' << 8 | 'l', 3), 4);
        Due.due("a word that ends too early", x.palace(), -5);
        Due.due("four of the highest bit", x.feed(0x80777777, 4), 4);
        Due.due("the byte 128", x.palace(), -1);
    }

    @Says(in = 25, value = "how many it has.")
    static void feedTellsHowMany() {
        WallShifts x = new WallShifts();
        int had = 0;
        for (int i = 0; i < 48; i++) {
            int n = 1 + i % 4;
            had += n;
            Due.due("so many", x.feed(0x20202020, n), had);
        }
        Due.due("120", had, 120);
        Due.due("counted", x.count(1), 120);
    }

    @Says(in = 25, value = "BEYOND: n.")
    static void feedBeyond() {
        Edges.range(Built::rich, 1, 4, (x, v) -> x.feed(0x20202020, v));
        Edges.range(Built::empty, 1, 4, (x, v) -> x.feed(-1, v));
    }

    @Says(in = 25, value = "FULL.")
    static void feedFull() {
        for (int n = 1; n <= 4; n++) {
            int size = n;
            Due.due("just enough room", fed(120 - n).feed(0x20202020, n), 120);
            Edges.refused(() -> fed(121 - size), x -> x.feed(0x20202020, size), Due.FULL);
            Edges.refused(() -> fed(120), x -> x.feed(0x20202020, size), Due.FULL);
        }
        WallShifts x = fed(118);
        Due.due("three are too many", x.feed(0x202020, 3), Due.FULL);
        Due.due("none of them came", x.count(1), 118);
        Due.due("two aren't", x.feed(0x2020, 2), 120);
        x.wipe();
        Due.due("empty again", x.feed(0x20202020, 4), 4);
    }

    private static WallShifts fed(int bytes) {
        WallShifts x = new WallShifts();
        Due.feed(x, many(" ", bytes));
        return x;
    }

    // ---- promise 26

    @Says(in = 26, value = "THE TAPE is empty: how many it had.")
    static void wipeTellsHowMany() {
        for (int n : new int[] {0, 1, 119, 120}) {
            WallShifts x = fed(n);
            Due.due("it had", x.wipe(), n);
            Due.due("it has", x.count(1), 0);
            Due.due("it had none", x.wipe(), 0);
            Due.due("nothing is told", x.palace(), -1);
        }
    }

    @Says(in = 26, value = "THE TAPE is empty: how many it had.")
    static void wipeLeavesAllElse() {
        WallShifts x = Built.rich();
        x.wipe();
        WallShifts y = Built.rich();
        y.wipe();
        Due.feed(y, "shift 5");
        Due.feed(x, "shift 5");
        Edges.same("told alike", x, y);
        WallShifts z = new WallShifts();
        Due.feed(z, "shift 9;");
        z.wipe();
        Due.feed(z, "season 2");
        Due.due("nothing of old", z.palace(), 1);
        Due.due("not told", z.now(1), 15);
        Due.due("told", z.now(3), 2);
    }

    // ---- promise 27

    @Says(in = 27, value = "THE TAPE is THE TEXT of a PALACE, whose ITEMS come to what there is, and empty then: "
            + "how many ITEMS.")
    static void palaceComesToWhatThereIs() {
        WallShifts x = Built.rich();
        Due.due("two", x.palace(), 2);
        Due.due("empty then", x.count(1), 0);
        long[] now = {7, 9, 1, 1, 6, 0x8427, 9};
        for (int what = 0; what < now.length; what++) {
            Due.due("now " + what, x.now(what), now[what]);
        }
        Due.due("one wall more", x.count(0), 4);
        int[] all = {0, 8, 8, 3, 0, 0};
        for (int what = 0; what < all.length; what++) {
            Due.due("of it, " + what, x.of(3, what), all[what]);
        }
        Due.due("an older one's file stays", x.of(0, 4), 0x8421);
        Due.due("nothing is left to tell", x.palace(), -1);
    }

    @Says(in = 27, value = "whose ITEMS come to what there is,")
    static void palaceLetsNobodyRest() {
        // To turn the shift by a text is no minute that goes.
        WallShifts x = Built.sides(0, 1, 2, 3);
        for (int wall = 0; wall < 4; wall++) {
            x.set(wall, 5, 9);
        }
        x.pass(14);
        Due.due("one", Due.told(x, "shift 7"), 1);
        Due.due("tired as before", x.now(6), 36);
        Due.due("the later of two stays", Due.told(x, "change 3;change 4"), 2);
        Due.due("4", x.now(2), 4);
    }

    @Says(in = 27, value = "With a FAULT: -1 less its place (nothing changes but that THE TAPE is empty; no finding).")
    static void palaceWithAFault() {
        String[] texts = {"x", "shift 9;change 9;season 2;wall of 1;thin of 2 and 3 side 1;x", "wall of 3;",
            "shift 9;shift 0"};
        int[] due = {-1, -60, -11, -15};
        for (int i = 0; i < texts.length; i++) {
            WallShifts x = Built.rich();
            x.wipe();
            Due.due(texts[i], Due.told(x, texts[i]), due[i]);
            Due.due("empty", x.count(1), 0);
            Due.due("no finding", x.status(-1), 0);
            WallShifts y = Built.rich();
            y.wipe();
            Edges.same("after a fault", x, y);
        }
    }

    @Says(in = 27, value = "With a FAULT: -1 less its place")
    static void palaceWithTheFirstAndTheLastFault() {
        Due.due("an empty tape", new WallShifts().palace(), -1);
        Due.due("the first byte", Due.told(new WallShifts(), "?"), -1);
        Due.due("the 120th byte", Due.told(new WallShifts(), many(" ", 119) + "?"), -120);
        Due.due("behind the 120th", Due.told(new WallShifts(), many(" ", 120)), -121);
    }
}
