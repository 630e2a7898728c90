/** Promises 9 to 15, sentence by sentence: what is said, the minutes, and what is filed. */
final class SaidSays {
    private SaidSays() {
    }

    // ---- promise 9

    @Says(in = 9, value = "A WORD is SAID in a ROOM: those that heard it, as a set.")
    static void sayToAllTen() {
        WallShifts x = Built.heard(0, 0, 0, 0, 0, 0, 0, 0, 0, 0);
        Due.due("ten", x.say(0, 5), 1023);
        x.set(9, 3, 1);
        Due.due("all but the last", x.say(0, 6), 511);
        x.set(0, 3, 1);
        x.set(9, 3, 0);
        Due.due("all but the first", x.say(0, 7), 1022);
        Due.due("the first's file", x.of(0, 4), 1 << 5 | 1 << 6);
        Due.due("the last's file", x.of(9, 4), 1 << 5 | 1 << 7);
    }

    @Says(in = 9, value = "A WORD is SAID in a ROOM: those that heard it, as a set.")
    static void sayToNobody() {
        Edges.unchanged(Built::empty, x -> x.say(0, 5));
        Due.due("the empty set", new WallShifts().say(0, 5), 0);
        WallShifts x = Built.heard(0);
        Due.due("in a room without a wall", x.say(9, 5), 0);
        Due.due("nothing is filed", x.of(0, 4), 0);
        Due.due("nobody tires", x.of(0, 5), 0);
    }

    @Says(in = 9, value = "A WORD is SAID in a ROOM: those that heard it, as a set.")
    static void sayLetsNoMinuteGo() {
        WallShifts x = Built.heard(0);
        x.pass(14);
        x.say(0, 5);
        Due.due("still 14", x.now(0), 14);
        Due.due("in the last minute", Built.late().say(0, 5), 3);
    }

    @Says(in = 9, value = "BEYOND.")
    static void sayBeyondRoom() {
        Edges.range(Built::rich, 0, 9, (x, v) -> x.say(v, 5));
    }

    @Says(in = 9, value = "BEYOND.")
    static void sayBeyondWord() {
        Edges.range(Built::rich, 0, 15, (x, v) -> x.say(0, v));
    }

    // ---- promise 10

    @Says(in = 10, value = "n MINUTES go (1 to 240): MINUTE then.")
    static void passTellsTheMinute() {
        WallShifts x = new WallShifts();
        Due.due("the least", x.pass(1), 1);
        Due.due("the most", x.pass(240), 241);
        Due.due("now", x.now(0), 241);
    }

    @Says(in = 10, value = "n MINUTES go (1 to 240): MINUTE then.")
    static void passGoesThroughEachMinute() {
        // At once or one by one, all that begin their quarter on the way rest.
        for (int n : new int[] {1, 14, 15, 16, 29, 30, 45, 59, 60, 61, 240}) {
            WallShifts atOnce = Built.sides(0, 1, 2, 3);
            WallShifts oneByOne = Built.sides(0, 1, 2, 3);
            for (int wall = 0; wall < 4; wall++) {
                atOnce.set(wall, 5, 9);
                oneByOne.set(wall, 5, 9);
            }
            atOnce.pass(n);
            for (int i = 0; i < n; i++) {
                oneByOne.pass(1);
            }
            int rested = n / 15 > 4 ? 4 : n / 15;
            Due.due("tired after " + n, atOnce.now(6), 36 - 9 * rested);
            Edges.same("after " + n, atOnce, oneByOne);
        }
    }

    @Says(in = 10, value = "BEYOND.")
    static void passBeyond() {
        Edges.range(Built::rich, 1, 240, (x, v) -> x.pass(v));
    }

    @Says(in = 10, value = "STATE: MINUTE would be above 99999.")
    static void passToTheLastMinute() {
        WallShifts x = new WallShifts();
        Due.passTo(x, 99760);
        Due.due("240 from 99760", x.pass(240), Due.STATE);
        Due.due("still there", x.now(0), 99760);
        Due.due("239 from there", x.pass(239), 99999);
        Due.due("one more", x.pass(1), Due.STATE);
        Due.due("240 more", x.pass(240), Due.STATE);
        WallShifts y = new WallShifts();
        Due.passTo(y, 99759);
        Due.due("240 from 99759", y.pass(240), 99999);
    }

    @Says(in = 10, value = "STATE: MINUTE would be above 99999.")
    static void passStateChangesNothing() {
        Edges.refused(Built::late, x -> x.pass(1), Due.STATE);
        Edges.refused(Built::late, x -> x.pass(240), Due.STATE);
    }

    // ---- promise 11

    @Says(in = 11, value = "WORDS of a set are SAID in a ROOM, the least first, each in its MINUTE, which goes "
            + "behind it:")
    static void speakTheLeastFirst() {
        WallShifts x = Built.heard(0);
        x.rota(3, 1);
        // It hears one word, then sleeps.
        Due.due("one hearing", x.speak(0, 1 << 15 | 1 << 7 | 1 << 3), 1);
        Due.due("of the least", x.of(0, 4), 1 << 3);
    }

    @Says(in = 11, value = "each in its MINUTE, which goes behind it:")
    static void speakBehindEachWordAMinute() {
        for (int words : new int[] {0, 1, 1 << 15, 3, 65535}) {
            WallShifts x = new WallShifts();
            x.speak(0, words);
            Due.due("minutes of " + words, x.now(0), Integer.bitCount(words));
        }
        WallShifts x = Built.of(0);
        x.pass(14);
        // The word is said at 14; at 15 the quarter is over.
        Due.due("the last minute of a quarter", x.speak(0, 1), 1);
        Due.due("15 then", x.now(0), 15);
        Due.due("the change", x.speak(0, 1), 0);
    }

    @Says(in = 11, value = "each in its MINUTE, which goes behind it:")
    static void speakLetsWallsRest() {
        WallShifts x = Built.sides(1);
        x.rota(1, 0);
        x.set(0, 5, 99);
        x.pass(13);
        // Said at 13 and 14 off duty; it has rested at 15, when the third is said.
        Due.due("one hearing", x.speak(0, 7), 1);
        Due.due("of the third", x.of(0, 4), 4);
        Due.due("tired by it alone", x.of(0, 5), 1);
        WallShifts last = Built.sides(1);
        last.set(0, 5, 99);
        last.pass(14);
        last.speak(0, 1);
        Due.due("the minute behind the last word goes, too", last.of(0, 5), 0);
    }

    @Says(in = 11, value = "how many hearings there were (a WALL and a WORD each).")
    static void speakCountsHearings() {
        Due.due("none", Built.heard(0).speak(0, 0), 0);
        Due.due("nobody", Built.heard(0).speak(1, 65535), 0);
        Due.due("one", Built.heard(0).speak(0, 1 << 15), 1);
        Due.due("three walls, two words", Built.heard(0, 1, 2).speak(0, 3), 6);
        WallShifts x = Built.heard(0, 0, 0, 0, 0, 0, 0, 0, 0, 0);
        x.rota(0, 60);
        x.rota(3, 20);
        Due.due("ten walls, sixteen words", x.speak(0, 65535), 160);
        Due.due("stone hears twelve", longStone().speak(0, 65535), 12);
    }

    private static WallShifts longStone() {
        WallShifts x = Built.heard(Built.STONE);
        x.rota(0, 60);
        return x;
    }

    @Says(in = 11, value = "BEYOND.")
    static void speakBeyondRoom() {
        Edges.range(Built::rich, 0, 9, (x, v) -> x.speak(v, 3));
    }

    @Says(in = 11, value = "BEYOND.")
    static void speakBeyondWords() {
        Edges.range(Built::rich, 0, 65535, (x, v) -> x.speak(0, v));
    }

    @Says(in = 11, value = "STATE: MINUTE would be above 99999.")
    static void speakToTheLastMinute() {
        WallShifts x = new WallShifts();
        Due.passTo(x, 99984);
        Due.due("16 from 99984", x.speak(0, 65535), Due.STATE);
        Due.due("still there", x.now(0), 99984);
        Due.due("15 from there", x.speak(0, 65534), 0);
        Due.due("the last minute", x.now(0), 99999);
        WallShifts y = new WallShifts();
        Due.passTo(y, 99983);
        Due.due("16 from 99983", y.speak(0, 65535), 0);
        Due.due("the last minute, too", y.now(0), 99999);
    }

    @Says(in = 11, value = "STATE: MINUTE would be above 99999.")
    static void speakStateSaysNothing() {
        Edges.refused(Built::late, x -> x.speak(0, 1), Due.STATE);
        Edges.refused(Built::late, x -> x.speak(0, 65535), Due.STATE);
        Due.due("no word wants no minute", Built.late().speak(0, 0), 0);
    }

    // ---- promise 12

    @Says(in = 12, value = "REACH of a ROOM, as a set.")
    static void reachOfEachRoom() {
        WallShifts x = new WallShifts();
        for (int room = 0; room < 10; room++) {
            Due.due("its own", x.reach(room), 1 << room);
        }
        for (int room = 0; room < 9; room++) {
            x.wall(Built.THIN, room, room + 1);
        }
        for (int room = 0; room < 10; room++) {
            Due.due("all", x.reach(room), 1023);
        }
        Edges.unchanged(Built::rich, y -> y.reach(0));
    }

    @Says(in = 12, value = "BEYOND.")
    static void reachBeyond() {
        Edges.range(Built::rich, 0, 9, (x, v) -> x.reach(v));
    }

    // ---- promise 13

    @Says(in = 13, value = "Those ON DUTY in a MINUTE (0 to 99999), as a set.")
    static void dutyOfTheFirstAndTheLastMinute() {
        WallShifts x = Built.sides(0, 2);
        x.rota(1, 0);
        Due.due("the first minute", x.duty(0), 1);
        Due.due("the last minute", x.duty(99999), 2);
        Due.due("nobody", new WallShifts().duty(99999), 0);
        WallShifts ten = Built.heard(0, 1, 2, 3, 4, 5, 0, 0, 0, 0);
        Due.due("all ten", ten.duty(0), 1023);
    }

    @Says(in = 13, value = "Those ON DUTY in a MINUTE (0 to 99999), as a set.")
    static void dutyBehindAndAhead() {
        WallShifts x = Built.sides(0, 1, 2, 3);
        x.pass(31);
        Due.due("a minute that's over", x.duty(14), 1);
        Due.due("this one, a change", x.duty(31), 0);
        Due.due("the next", x.duty(32), 4);
        Edges.unchanged(Built::rich, y -> y.duty(99999));
    }

    @Says(in = 13, value = "Those ON DUTY in a MINUTE (0 to 99999), as a set.")
    static void dutyOfThoseAsleep() {
        WallShifts x = Built.heard(0);
        x.set(0, 5, 99);
        Due.due("asleep on duty", x.duty(0), 1);
    }

    @Says(in = 13, value = "BEYOND.")
    static void dutyBeyond() {
        Edges.range(Built::rich, 0, 99999, (x, v) -> x.duty(v));
    }

    // ---- promise 14

    @Says(in = 14, value = "What 0 MINUTE, 1 SHIFT, 2 CHANGE, 3 SEASON, 4 COURAGE,")
    static void nowAtTheEdges() {
        WallShifts x = new WallShifts();
        int[] least = {1, 0, 0, 1};
        int[] most = {60, 60, 3, 20};
        for (int what = 0; what <= 3; what++) {
            x.rota(what, least[what]);
            Due.due("least of " + what, x.now(1 + what), least[what]);
            x.rota(what, most[what]);
            Due.due("most of " + what, x.now(1 + what), most[what]);
        }
        Due.due("the first minute", x.now(0), 0);
        Due.due("the last minute", Built.late().now(0), 99999);
    }

    @Says(in = 14, value = "5 WORDS in any FILE, as a set,")
    static void nowWordsInAnyFile() {
        WallShifts x = Built.of(0, 0, 0);
        Due.due("none", x.now(5), 0);
        x.set(0, 4, 1);
        x.set(1, 4, 3);
        x.set(2, 4, 32768);
        Due.due("in any", x.now(5), 32771);
        x.set(1, 4, 65535);
        Due.due("all", x.now(5), 65535);
        Due.due("no walls, no words", new WallShifts().now(5), 0);
    }

    @Says(in = 14, value = "6 TIRED of all together.")
    static void nowTiredTogether() {
        WallShifts x = Built.full();
        Due.due("nobody", x.now(6), 0);
        for (int wall = 0; wall < 10; wall++) {
            x.set(wall, 5, 99);
        }
        Due.due("ten as tired as can be", x.now(6), 990);
        x.set(9, 5, 0);
        Due.due("nine", x.now(6), 891);
        Due.due("no walls", new WallShifts().now(6), 0);
    }

    @Says(in = 14, value = {"What 0 MINUTE", "BEYOND."})
    static void nowBeyond() {
        Edges.range(Built::rich, 0, 6, (x, v) -> x.now(v));
    }

    // ---- promise 15

    @Says(in = 15, value = "FILES of all joined: how many hold a WORD.")
    static void filedInNoneAndInAll() {
        WallShifts x = Built.full();
        Due.due("in none", x.filed(0), 0);
        for (int wall = 0; wall < 10; wall++) {
            x.set(wall, 4, 32768 | (wall < 4 ? 1 : 0));
        }
        Due.due("in all ten", x.filed(15), 10);
        Due.due("in four", x.filed(0), 4);
        Due.due("the next word", x.filed(1), 0);
        Due.due("no walls", new WallShifts().filed(15), 0);
    }

    @Says(in = 15, value = "FILES of all joined: how many hold a WORD.")
    static void filedAsItBecame() {
        WallShifts x = Built.heard(Built.WALL, Built.PAPERED);
        x.say(0, 8);
        Due.due("as it was said", x.filed(8), 1);
        Due.due("as it was misheard", x.filed(9), 1);
    }

    @Says(in = 15, value = "BEYOND.")
    static void filedBeyond() {
        Edges.range(Built::rich, 0, 15, (x, v) -> x.filed(v));
    }
}
