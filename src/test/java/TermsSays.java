/** The Terms, sentence by sentence, but for the text of a palace, which TextSays has. */
final class TermsSays {
    private static final int[] SEASONS = {0, 1, 2, 3};

    private TermsSays() {
    }

    // ---- findings

    @Says(in = Says.TERMS, value = "FINDINGS are answers below -1000000000: -1000000001 BEYOND, -1000000002 FULL, "
            + "-1000000003 KIND, -1000000004 NONE, -1000000005 STATE, -1000000006 MISSING, -1000000007 SIZE "
            + "(in longs, too).")
    static void findingsAreTheseNumbers() {
        Due.due("BEYOND", new WallShifts().reach(10), -1000000001L);
        Due.due("FULL", Built.full().wall(0, 0, 0), -1000000002L);
        Due.due("KIND", Built.of(0).as(0, 1), -1000000003L);
        Due.due("NONE", new WallShifts().undo(), -1000000004L);
        Due.due("STATE", Built.late().pass(1), -1000000005L);
        Due.due("MISSING", new WallShifts().lays(0), -1000000006L);
        Due.due("SIZE", new WallShifts().sheet(0, 8, -1), -1000000007L);
        Due.due("BEYOND in longs", new WallShifts().write(4, 0, 0), -1000000001L);
        Due.due("MISSING in longs", new WallShifts().write(0, 0, 0), -1000000006L);
    }

    @Says(in = Says.TERMS, value = "Each act tells its findings in the order in which they are asked;")
    static void findingsInTheirOrder() {
        Edges.refused(Built::full, x -> x.wall(6, 0, 0), Due.BEYOND);
        Edges.refused(Built::full, x -> x.wall(0, 10, 0), Due.BEYOND);
        Edges.refused(Built::full, x -> x.wall(0, 0, 10), Due.BEYOND);
        Edges.refused(Built::late, x -> x.pass(241), Due.BEYOND);
        Edges.refused(Built::late, x -> x.pass(0), Due.BEYOND);
        Edges.refused(Built::late, x -> x.speak(10, 1), Due.BEYOND);
        Edges.refused(Built::late, x -> x.speak(0, 65536), Due.BEYOND);
        Edges.refused(() -> fedFull(), x -> x.feed(0, 5), Due.BEYOND);
        Edges.refused(Built::rich, x -> x.sheet(4, 8, -1), Due.BEYOND);
        Edges.refused(Built::rich, x -> x.sheet(0, 9, -1), Due.BEYOND);
        Edges.refused(Built::rich, x -> x.write(3, -1, 1), Due.MISSING);
        Edges.refused(Built::rich, x -> x.copy(3, -1, 0, 0, 1), Due.MISSING);
        Edges.refused(Built::rich, x -> x.copy(0, 0, 3, -1, 1), Due.MISSING);
        Edges.refused(Built::rich, x -> x.copy(3, 0, 4, 0, 1), Due.BEYOND);
        Edges.refused(Built::rich, x -> x.copy(-1, 0, 3, 0, 1), Due.BEYOND);
        Edges.refused(Built::rich, x -> x.copy(0, -1, 1, -1, -1), Due.KIND);
        Edges.refused(Built::rich, x -> x.copy(0, 0, 1, 0, 99), Due.KIND);
        Edges.refused(Built::rich, x -> x.book(3, -1), Due.MISSING);
        Edges.refused(Built::rich, x -> x.book(4, -1), Due.BEYOND);
        Edges.refused(Built::rich, x -> x.read(3, -1), Due.MISSING);
        Edges.refused(Built::rich, x -> x.read(4, -1), Due.BEYOND);
    }

    private static WallShifts fedFull() {
        WallShifts x = new WallShifts();
        for (int i = 0; i < 30; i++) {
            x.feed(0x20202020, 4);
        }
        return x;
    }

    @Says(in = Says.TERMS, value = "one that answers a finding changes nothing but status().")
    static void findingsChangeNothing() {
        Edges.refused(Built::rich, x -> x.rota(0, 61), Due.BEYOND);
        Edges.refused(Built::rich, x -> x.wall(5, 9, 10), Due.BEYOND);
        Edges.refused(Built::full, x -> x.wall(5, 9, 9), Due.FULL);
        Edges.refused(Built::rich, x -> x.set(0, 4, 65536), Due.BEYOND);
        Edges.refused(Built::rich, x -> x.turn(0, 6), Due.BEYOND);
        Edges.refused(Built::rich, x -> x.as(0, 1), Due.KIND);
        Edges.refused(Built::rich, x -> x.say(0, 16), Due.BEYOND);
        Edges.refused(Built::rich, x -> x.pass(241), Due.BEYOND);
        Edges.refused(Built::rich, x -> x.speak(0, 65536), Due.BEYOND);
        Edges.refused(Built::late, x -> x.pass(2), Due.STATE);
        Edges.refused(Built::late, x -> x.speak(0, 3), Due.STATE);
        Edges.refused(Built::rich, x -> x.cover(9, 60), Due.NONE);
        Edges.refused(Built::rich, x -> x.feed(0x20202020, 5), Due.BEYOND);
        Edges.refused(() -> fedFull(), x -> x.feed(0x20202020, 1), Due.FULL);
        Edges.refused(Built::rich, x -> x.sheet(0, 16, 41), Due.BEYOND);
        Edges.refused(Built::rich, x -> x.sheet(0, 0, -1), Due.SIZE);
        Edges.refused(Built::rich, x -> x.write(0, 3, 9), Due.BEYOND);
        Edges.refused(Built::rich, x -> x.copy(0, 0, 0, 1, 3), Due.BEYOND);
        Edges.refused(Built::rich, x -> x.lays(4), Due.BEYOND);
        Edges.refused(Built::rich, x -> x.book(0, 3), Due.BEYOND);
    }

    @Says(in = Says.TERMS, value = "Quotients are cut.")
    static void quotientsAreCut() {
        Due.due("29 by 15 is 1", Built.sides(0, 1, 2, 3).duty(29), 2);
        Due.due("59 by 15 is 3", Built.sides(0, 1, 2, 3).duty(59), 8);
        WallShifts x = Built.sides(0, 1, 2, 3);
        x.rota(0, 60);
        Due.due("59 by 60 is 0", x.duty(59), 1);
        Due.due("half of 1 is 0", Built.of(Built.STONE).of(0, 8), 0);
    }

    @Says(in = Says.TERMS, value = "Sets are told by bits.")
    static void setsAreToldByBits() {
        WallShifts x = Built.heard(0, 0, 0, 0, 0, 0, 0, 0, 0, 0);
        Due.due("rooms: the last", x.reach(9), 512);
        x.set(9, 1, 9);
        x.set(9, 2, 9);
        Due.due("walls: the last", x.say(9, 15), 512);
        Due.due("words: the last", x.of(9, 4), 32768);
        Due.due("words: the first", x.say(9, 0) + x.of(9, 4), 512 + 32769);
        Due.due("words of a set", x.lost(8, 0b1000_0000_0001_0010), 0b1000_0000_0001_0010);
    }

    // ---- section 1: rooms, words, minutes, the rota

    @Says(in = Says.TERMS, value = "ROOMS 0 to 9.")
    static void rooms() {
        for (int room : new int[] {0, 9}) {
            WallShifts x = Built.empty();
            x.rota(1, 0);
            x.wall(0, room, room);
            Due.due("a word in it is heard", x.say(room, 5), 1);
            Due.due("best it's said elsewhere", x.best(1), room == 0 ? 1 : 0);
        }
        Due.due("there's no room 10", new WallShifts().reach(10), Due.BEYOND);
        Due.due("nor -1", new WallShifts().reach(-1), Due.BEYOND);
    }

    @Says(in = Says.TERMS, value = "WORDS 0 to 15 (sets of them: 0 to 65535).")
    static void words() {
        WallShifts x = Built.heard(0);
        Due.due("0", x.say(0, 0), 1);
        Due.due("15", x.say(0, 15), 1);
        Due.due("16", x.say(0, 16), Due.BEYOND);
        Due.due("-1", x.say(0, -1), Due.BEYOND);
        Due.due("the empty set", x.set(0, 4, 0), 32769);
        Due.due("all", x.set(0, 4, 65535), 0);
        Due.due("65536", x.set(0, 4, 65536), Due.BEYOND);
        Due.due("-1 as a set", x.set(0, 4, -1), Due.BEYOND);
        // A papered wall makes no 16th word of the last one, nor one below 0 of the first.
        WallShifts papered = Built.heard(Built.PAPERED);
        papered.say(0, 15);
        papered.say(0, 0);
        Due.due("misheard, still 0 to 15", papered.of(0, 4), 1 << 14 | 1 << 1);
    }

    @Says(in = Says.TERMS, value = "MINUTE: 0 at first (99999 at most).")
    static void minute() {
        Due.due("at first", new WallShifts().now(0), 0);
        WallShifts x = Built.late();
        Due.due("at most", x.now(0), 99999);
        Due.due("no further", x.pass(1), Due.STATE);
    }

    @Says(in = Says.TERMS, value = "SHIFT (1 to 60 minutes; 15 at first),")
    static void shift() {
        WallShifts x = Built.sides(0, 1);
        x.rota(1, 0);
        Due.due("at first the quarter has 15: its last", x.duty(14), 1);
        Due.due("the next one's first", x.duty(15), 2);
        x.rota(0, 1);
        Due.due("of one minute, the first", x.duty(0), 1);
        Due.due("of one minute, the second", x.duty(1), 2);
        x.rota(0, 60);
        Due.due("of sixty, the last", x.duty(59), 1);
        Due.due("of sixty, the next", x.duty(60), 2);
    }

    @Says(in = Says.TERMS, value = "CHANGE (0 to 60; 2 at first),")
    static void change() {
        WallShifts x = Built.sides(0);
        Due.due("at first two: the second", x.duty(1), 0);
        Due.due("the third", x.duty(2), 1);
        x.rota(1, 0);
        Due.due("none", x.duty(0), 1);
        x.rota(1, 60);
        x.rota(0, 60);
        Due.due("all sixty", x.duty(59), 0);
        x.rota(1, 59);
        Due.due("but one", x.duty(59), 1);
    }

    @Says(in = Says.TERMS, value = "SEASON (0 to 3; 0 at first; 3: winter),")
    static void season() {
        WallShifts x = Built.of(Built.NORTH);
        Due.due("at first", x.now(3), 0);
        Due.due("no winter", x.duty(2), 1);
        for (int season = 0; season <= 3; season++) {
            x.rota(2, season);
            Due.due("in season " + season, x.duty(2), season == 3 ? 0 : 1);
        }
    }

    @Says(in = Says.TERMS, value = "COURAGE (1 to 20; 5 at first: how much one hears till it is tired).")
    static void courage() {
        for (int courage : new int[] {0, 1, 5, 20}) {
            WallShifts x = Built.heard(0);
            x.rota(0, 60);
            if (courage > 0) {
                x.rota(3, courage);
            }
            Due.due("so much is heard", x.speak(0, 65535) + x.speak(0, 65535), courage == 0 ? 5 : courage);
        }
    }

    // ---- section 1: walls

    @Says(in = Says.TERMS, value = "WALLS 0, 1, .. (at most 10)")
    static void walls() {
        WallShifts x = new WallShifts();
        for (int i = 0; i < 10; i++) {
            Due.due("the next", x.wall(0, 0, 0), i);
        }
        Due.due("at most ten", x.wall(0, 0, 0), Due.FULL);
        Due.due("the last", x.of(9, 0), 0);
        Due.due("no eleventh", x.of(10, 0), Due.BEYOND);
    }

    @Says(in = Says.TERMS, value = "are of KINDS: 0 WALL, 1 NORTH under WALL, 2 PAPERED under WALL, 3 THIN under WALL, "
            + "4 STONE under NORTH, 5 TAPESTRY under PAPERED;")
    static void kinds() {
        boolean[][] under = {
            {true, false, false, false, false, false},
            {true, true, false, false, false, false},
            {true, false, true, false, false, false},
            {true, false, false, true, false, false},
            {true, true, false, false, true, false},
            {true, false, true, false, false, true}};
        for (int kind = 0; kind <= 5; kind++) {
            for (int asked = 0; asked <= 5; asked++) {
                Due.due(kind + " as " + asked, Built.of(kind).as(0, asked), under[kind][asked] ? 0 : Due.KIND);
            }
        }
        Due.due("no kind 6", new WallShifts().wall(6, 0, 0), Due.BEYOND);
    }

    @Says(in = Says.TERMS, value = "each between two ROOMS (which may be one),")
    static void betweenTwoRoomsWhichMayBeOne() {
        WallShifts x = new WallShifts();
        x.rota(1, 0);
        x.wall(0, 3, 3);
        x.wall(0, 4, 5);
        x.wall(Built.THIN, 6, 6);
        Due.due("in its only room", x.say(3, 1), 1);
        Due.due("in one of two", x.say(4, 1), 2);
        Due.due("in the other", x.say(5, 2), 2);
        Due.due("a thin one about one room", x.say(6, 3), 4);
        Due.due("leads nowhere", x.reach(6), 64);
    }

    @Says(in = Says.TERMS, value = "with a SIDE (0 to 3), a FILE (a set of WORDS; empty at first), "
            + "TIRED (0 to 99; 0 at first).")
    static void eachAtFirst() {
        WallShifts x = Built.full();
        for (int wall = 0; wall < 10; wall++) {
            Due.due("side", x.of(wall, 3), 0);
            Due.due("file", x.of(wall, 4), 0);
            Due.due("tired", x.of(wall, 5), 0);
            int[] most = {0, 0, 0, 3, 65535, 99};
            for (int what = 3; what <= 5; what++) {
                Due.due("at most, " + what, x.set(wall, what, most[what]), 0);
                Due.due("not more, " + what, x.set(wall, what, most[what] + 1), Due.BEYOND);
            }
        }
    }

    // ---- section 1: on duty

    /** On duty as the document says for a plain wall. */
    private static boolean plainOn(int side, int shift, int change, int minute) {
        return minute / shift % 4 == side && minute % shift >= change;
    }

    @Says(in = Says.TERMS, value = "WALL: if the rest by 4 of t by SHIFT is its SIDE,")
    static void wallOnItsSide() {
        for (int side = 0; side <= 3; side++) {
            for (int hour : new int[] {0, 60, 99900}) {
                int begin = hour + 15 * side;
                Edges.yes("the first minute", Built.isOn(0, side, 15, 0, 0, begin));
                Edges.yes("the last minute", Built.isOn(0, side, 15, 0, 0, begin + 14));
                Edges.no("the minute behind", Built.isOn(0, side, 15, 0, 0, begin + 15));
                if (begin > 0) {
                    Edges.no("the minute before", Built.isOn(0, side, 15, 0, 0, begin - 1));
                }
            }
            // 99999 by 15 is 6666, which leaves 2.
            Due.due("in the very last minute", Built.isOn(0, side, 15, 0, 0, 99999) ? 1 : 0, side == 2 ? 1 : 0);
        }
    }

    @Says(in = Says.TERMS, value = "and the rest of t by SHIFT is CHANGE or more.")
    static void wallOnWhenTheChangeIsOver() {
        for (int change : new int[] {1, 2, 14}) {
            Edges.no("its last minute", Built.isOn(0, 1, 15, change, 0, 15 + change - 1));
            Edges.yes("the first behind it", Built.isOn(0, 1, 15, change, 0, 15 + change));
            Edges.yes("the quarter's last", Built.isOn(0, 1, 15, change, 0, 29));
        }
        Edges.yes("no change", Built.isOn(0, 1, 15, 0, 0, 15));
        for (int change : new int[] {15, 16, 60}) {
            for (int minute = 0; minute < 60; minute++) {
                Edges.no("as long as the quarter, or longer", Built.isOn(0, 1, 15, change, 0, minute));
            }
        }
        Edges.yes("one minute of sixty", Built.isOn(0, 1, 60, 59, 0, 119));
        Edges.no("none of sixty", Built.isOn(0, 1, 60, 60, 0, 119));
        Edges.yes("shifts of a minute", Built.isOn(0, 1, 1, 0, 0, 5));
        Edges.no("shifts of a minute, and a change", Built.isOn(0, 1, 1, 1, 0, 5));
    }

    @Says(in = Says.TERMS, value = "NORTH: as WALL, but not in winter.")
    static void northOnButInWinter() {
        onAsPlainWall(Built.NORTH, new int[] {0, 1, 2});
        for (int minute = 0; minute < 60; minute++) {
            Edges.no("in winter", Built.isOn(Built.NORTH, 1, 15, 0, Built.WINTER, minute));
        }
    }

    @Says(in = Says.TERMS, value = "THIN: as WALL.")
    static void thinOnAsWall() {
        onAsPlainWall(Built.THIN, SEASONS);
    }

    @Says(in = Says.TERMS, value = "PAPERED: as WALL.")
    static void paperedOnAsWall() {
        onAsPlainWall(Built.PAPERED, SEASONS);
    }

    @Says(in = Says.TERMS, value = "ON DUTY in MINUTE t:")
    static void wallOnInAllSeasons() {
        onAsPlainWall(Built.WALL, SEASONS);
    }

    private static void onAsPlainWall(int kind, int[] seasons) {
        for (int season : seasons) {
            for (int side = 0; side <= 3; side++) {
                for (int minute = 0; minute <= 75; minute++) {
                    Due.due("kind " + kind + " of side " + side + ", season " + season + ", at " + minute,
                            Built.isOn(kind, side, 15, 2, season, minute) ? 1 : 0,
                            plainOn(side, 15, 2, minute) ? 1 : 0);
                }
            }
        }
    }

    @Says(in = Says.TERMS, value = "STONE: as NORTH; also in winter, if the rest of t by SHIFT is 0.")
    static void stoneOnAtTheStroke() {
        onAsPlainWall(Built.STONE, new int[] {0, 1, 2});
        for (int side = 0; side <= 3; side++) {
            for (int change : new int[] {0, 2, 60}) {
                for (int minute = 0; minute <= 75; minute++) {
                    Due.due("in winter, side " + side + ", change " + change + ", at " + minute,
                            Built.isOn(Built.STONE, side, 15, change, Built.WINTER, minute) ? 1 : 0,
                            minute % 15 == 0 ? 1 : 0);
                }
            }
        }
        Edges.yes("each minute is a stroke", Built.isOn(Built.STONE, 1, 1, 60, Built.WINTER, 3));
        Edges.yes("of sixty", Built.isOn(Built.STONE, 1, 60, 60, Built.WINTER, 60));
        Edges.no("behind it", Built.isOn(Built.STONE, 1, 60, 0, Built.WINTER, 61));
        Edges.no("before it", Built.isOn(Built.STONE, 1, 60, 0, Built.WINTER, 119));
    }

    @Says(in = Says.TERMS, value = "TAPESTRY: as PAPERED; also where the rest by 4 of t by SHIFT is one more than its "
            + "SIDE, round by 4, and that of t by SHIFT is CHANGE or more.")
    static void tapestryOnInTwoQuarters() {
        int[] next = {1, 2, 3, 0};
        for (int season : SEASONS) {
            for (int side = 0; side <= 3; side++) {
                for (int minute = 0; minute <= 75; minute++) {
                    boolean on = plainOn(side, 15, 2, minute) || plainOn(next[side], 15, 2, minute);
                    Due.due("side " + side + ", season " + season + ", at " + minute,
                            Built.isOn(Built.TAPESTRY, side, 15, 2, season, minute) ? 1 : 0, on ? 1 : 0);
                }
            }
        }
        Edges.yes("of 3 at 0, without a change", Built.isOn(Built.TAPESTRY, 3, 15, 0, 0, 0));
        Edges.no("of 3 at the change", Built.isOn(Built.TAPESTRY, 3, 15, 15, 0, 14));
        Edges.yes("of 3 in its one minute", Built.isOn(Built.TAPESTRY, 3, 15, 14, 0, 14));
    }

    // ---- section 1: what one hears, and how it tires

    @Says(in = Says.TERMS, value = {"HEARS (what a WORD w becomes for one): WALL: w.", "THIN: as WALL.",
        "NORTH: as WALL."})
    static void wallThinAndNorthHearTheWord() {
        for (int kind : new int[] {Built.WALL, Built.THIN, Built.NORTH}) {
            for (int word = 0; word <= 15; word++) {
                Due.due("kind " + kind, Built.of(kind).hears(0, word), word);
            }
        }
    }

    @Says(in = Says.TERMS, value = "PAPERED: w with its lowest bit the other way.")
    static void paperedMishears() {
        int[] becomes = {1, 0, 3, 2, 5, 4, 7, 6, 9, 8, 11, 10, 13, 12, 15, 14};
        for (int word = 0; word <= 15; word++) {
            Due.due("word " + word, Built.of(Built.PAPERED).hears(0, word), becomes[word]);
        }
    }

    @Says(in = Says.TERMS, value = "STONE: as NORTH, but nothing of WORDS below 4.")
    static void stoneHearsNothingBelowFour() {
        for (int word = 0; word <= 15; word++) {
            Due.due("word " + word, Built.of(Built.STONE).hears(0, word), word < 4 ? Due.NONE : word);
        }
        Due.due("nobody hears 3", Built.heard(Built.STONE).say(0, 3), 0);
        Due.due("stone hears 4", Built.heard(Built.STONE).say(0, 4), 1);
    }

    @Says(in = Says.TERMS, value = {"TAPESTRY: as PAPERED, but w itself, if TIRED is 0.", "(Others as the KIND above.)"})
    static void tapestryHearsRightWhileFresh() {
        for (int word = 0; word <= 15; word++) {
            for (int tired : new int[] {0, 1, 99}) {
                WallShifts x = Built.of(Built.TAPESTRY);
                x.set(0, 5, tired);
                Due.due("word " + word + ", tired " + tired, x.hears(0, word), tired == 0 ? word : word ^ 1);
            }
        }
    }

    @Says(in = Says.TERMS, value = {"TIRES (by a WORD that it hears): WALL: 1. PAPERED: as WALL. THIN: twice as WALL. "
            + "NORTH: as WALL. STONE: half of as NORTH. TAPESTRY: as PAPERED, and 1."})
    static void tires() {
        int[] tires = {1, 1, 1, 2, 0, 2};
        for (int kind = 0; kind <= 5; kind++) {
            WallShifts x = Built.heard(kind);
            Due.due("told, kind " + kind, x.of(0, 8), tires[kind]);
            x.say(0, 5);
            Due.due("by one, kind " + kind, x.of(0, 5), tires[kind]);
            x.say(0, 5);
            Due.due("by two, kind " + kind, x.of(0, 5), 2 * tires[kind]);
        }
    }

    @Says(in = Says.TERMS, value = "TIRES (by a WORD that it hears):")
    static void tiresByNoWordThatItDoesNotHear() {
        WallShifts x = Built.sides(0, 1);
        x.rota(1, 0);
        x.wall(0, 5, 5);
        x.say(0, 7);
        Due.due("it hears", x.of(0, 5), 1);
        Due.due("off duty", x.of(1, 5), 0);
        Due.due("elsewhere", x.of(2, 5), 0);
        x.set(0, 5, 5);
        x.say(0, 7);
        Due.due("asleep", x.of(0, 5), 5);
    }

    @Says(in = Says.TERMS, value = "AWAKE: one whose TIRED is below COURAGE.")
    static void awakeBelowCourage() {
        for (int courage : new int[] {1, 5, 20}) {
            for (int tired : new int[] {0, courage - 1, courage, courage + 1, 99}) {
                WallShifts x = Built.heard(0);
                x.rota(3, courage);
                x.set(0, 5, tired);
                int awake = tired < courage ? 1 : 0;
                Due.due("awake", x.of(0, 7), awake);
                Due.due("counted", x.count(3), awake);
                Due.due("hears", x.say(0, 5), awake);
            }
        }
    }

    // ---- section 1: leaks, what is said, minutes

    @Says(in = Says.TERMS, value = "LEAKS: a WORD said in a ROOM goes through each THIN wall of it,")
    static void leaksThroughThinOnesAlone() {
        for (int kind = 0; kind <= 5; kind++) {
            WallShifts x = new WallShifts();
            x.wall(kind, 3, 8);
            Due.due("from 3, kind " + kind, x.reach(3), kind == Built.THIN ? 1 << 3 | 1 << 8 : 1 << 3);
            Due.due("from 8, kind " + kind, x.reach(8), kind == Built.THIN ? 1 << 3 | 1 << 8 : 1 << 8);
            Due.due("from elsewhere, kind " + kind, x.reach(4), 1 << 4);
        }
    }

    @Says(in = Says.TERMS, value = "whether that is ON DUTY, AWAKE or not,")
    static void leaksOffDutyAndAsleep() {
        WallShifts x = Built.heard(Built.THIN, Built.WALL);
        x.set(0, 2, 1);
        x.set(1, 1, 1);
        x.set(1, 2, 1);
        Due.due("on duty, awake", x.say(0, 5), 3);
        x.set(0, 5, 99);
        Due.due("on duty, asleep", x.say(0, 5), 2);
        x.set(0, 3, 2);
        Due.due("off duty, asleep", x.say(0, 5), 2);
        x.set(0, 5, 0);
        Due.due("off duty, awake", x.say(0, 5), 2);
        Due.due("its reach", x.reach(0), 3);
    }

    @Says(in = Says.TERMS, value = "into its other ROOM, and on so: REACH: all ROOMS to which it comes (its own, too).")
    static void leaksOnAndOn() {
        Due.due("its own, without a wall", new WallShifts().reach(7), 128);
        // The chain's walls in an order that is no help in either way.
        int[] order = {4, 8, 0, 6, 2, 7, 1, 5, 3};
        WallShifts x = new WallShifts();
        for (int room : order) {
            x.wall(Built.THIN, room, room + 1);
        }
        for (int room = 0; room < 10; room++) {
            Due.due("all ten, from " + room, x.reach(room), 1023);
        }
        x.turn(0, Built.WALL);
        Due.due("cut between 4 and 5", x.reach(0), 31);
        Due.due("the other half", x.reach(9), 1023 & ~31);
        WallShifts ring = new WallShifts();
        ring.wall(Built.THIN, 0, 1);
        ring.wall(Built.THIN, 1, 2);
        ring.wall(Built.THIN, 2, 0);
        Due.due("a ring", ring.reach(1), 7);
    }

    @Says(in = Says.TERMS, value = "SAID: a WORD in a ROOM in this MINUTE: by numbers, each WALL that has a ROOM of REACH,")
    static void saidToThoseOfReach() {
        WallShifts x = new WallShifts();
        x.rota(1, 0);
        x.wall(0, 0, 5);
        x.wall(0, 5, 0);
        x.wall(Built.THIN, 0, 1);
        x.wall(0, 1, 6);
        x.wall(0, 6, 1);
        x.wall(0, 5, 6);
        Due.due("by the one room or by the other", x.say(0, 9), 0b011111);
        Due.due("not farther", x.of(5, 4), 0);
    }

    @Says(in = Says.TERMS, value = "is ON DUTY and AWAKE,")
    static void saidToThoseOnDutyAndAwake() {
        for (int side = 0; side <= 1; side++) {
            for (int tired : new int[] {4, 5}) {
                WallShifts x = Built.sides(side);
                x.rota(1, 0);
                x.set(0, 5, tired);
                boolean heard = side == 0 && tired == 4;
                Due.due("heard", x.say(0, 9), heard ? 1 : 0);
                Due.due("filed", x.of(0, 4), heard ? 512 : 0);
                Due.due("tired", x.of(0, 5), heard ? 5 : tired);
            }
        }
        WallShifts x = Built.sides(0);
        x.pass(1);
        Due.due("in this minute, a change", x.say(0, 9), 0);
        x.pass(1);
        Due.due("in this minute", x.say(0, 9), 1);
    }

    @Says(in = Says.TERMS, value = "and HEARS something of it: that comes to its FILE (that it becomes),")
    static void saidComesToTheFileAsItBecomes() {
        WallShifts x = Built.heard(Built.WALL, Built.PAPERED, Built.STONE, Built.TAPESTRY);
        x.set(0, 4, 1 << 15);
        Due.due("not by stone", x.say(0, 2), 0b1011);
        Due.due("beside what it had", x.of(0, 4), 1 << 15 | 1 << 2);
        Due.due("misheard", x.of(1, 4), 1 << 3);
        Due.due("nothing", x.of(2, 4), 0);
        Due.due("right, as it was fresh", x.of(3, 4), 1 << 2);
        Due.due("the same again", x.say(0, 2), 0b1011);
        Due.due("is no news", x.of(0, 4), 1 << 15 | 1 << 2);
        Due.due("nor if misheard", x.of(1, 4), 1 << 3);
        Due.due("but for the tapestry, tired now", x.of(3, 4), 1 << 2 | 1 << 3);
    }

    @Says(in = Says.TERMS, value = "TIRED is TIRES more (99 at most).")
    static void saidTires() {
        // As COURAGE is 20 at most, none that is awake comes above 21 by a word.
        WallShifts x = Built.heard(Built.THIN, Built.TAPESTRY, Built.WALL);
        x.rota(3, 20);
        for (int wall = 0; wall < 3; wall++) {
            x.set(wall, 5, 19);
        }
        Due.due("all awake", x.say(0, 9), 7);
        Due.due("thin", x.of(0, 5), 21);
        Due.due("tapestry", x.of(1, 5), 21);
        Due.due("wall", x.of(2, 5), 20);
        Due.due("all asleep", x.say(0, 9), 0);
        x.set(0, 5, 99);
        x.say(0, 9);
        Due.due("99 stays", x.of(0, 5), 99);
    }

    @Says(in = Says.TERMS, value = "A MINUTE goes: MINUTE is 1 more; if the rest of it by SHIFT is 0 then,")
    static void restsAtTheStrokeAlone() {
        WallShifts x = Built.sides(1);
        x.set(0, 5, 9);
        for (int minute = 1; minute <= 14; minute++) {
            Due.due("a minute", x.pass(1), minute);
            Due.due("no rest at " + minute, x.of(0, 5), 9);
        }
        x.pass(1);
        Due.due("at 15", x.of(0, 5), 0);
        x.set(0, 5, 9);
        x.pass(59);
        Due.due("not till 74", x.of(0, 5), 9);
        x.pass(1);
        Due.due("at 75", x.of(0, 5), 0);
    }

    @Says(in = Says.TERMS, value = "A MINUTE goes: MINUTE is 1 more; if the rest of it by SHIFT is 0 then,")
    static void restsByTheShiftOfThatMinute() {
        WallShifts x = Built.sides(1, 2);
        x.set(0, 5, 9);
        x.set(1, 5, 9);
        x.pass(14);
        x.rota(0, 7);
        Due.due("to turn the shift is no rest", x.now(6), 18);
        x.pass(1);
        Due.due("15 by 7 leaves 1", x.now(6), 18);
        x.rota(0, 8);
        x.pass(1);
        Due.due("16 is the second of 8", x.of(1, 5), 0);
        Due.due("not the first", x.of(0, 5), 9);
    }

    @Says(in = Says.TERMS, value = "TIRED of all whose SIDE is the rest by 4 of it by SHIFT is 0.")
    static void restsOfThatSide() {
        for (int quarter = 1; quarter <= 8; quarter++) {
            WallShifts x = Built.full();
            for (int wall = 0; wall < 10; wall++) {
                x.set(wall, 3, wall % 4);
            }
            x.pass(15 * quarter - 1);
            for (int wall = 0; wall < 10; wall++) {
                x.set(wall, 5, 99);
            }
            x.pass(1);
            for (int wall = 0; wall < 10; wall++) {
                Due.due("wall " + wall + " at " + 15 * quarter, x.of(wall, 5), wall % 4 == quarter % 4 ? 0 : 99);
            }
        }
    }

    @Says(in = Says.TERMS, value = "TIRED of all whose SIDE is the rest by 4 of it by SHIFT is 0.")
    static void restsWhetherOnDutyOrNot() {
        WallShifts x = Built.of(0, 1, 2, 3, 4, 5);
        for (int wall = 0; wall < 6; wall++) {
            x.set(wall, 3, 1);
            x.set(wall, 5, 9);
        }
        x.rota(1, 60);
        x.rota(2, Built.WINTER);
        x.pass(15);
        Due.due("all kinds, at the change, in winter", x.now(6), 0);
        WallShifts awake = Built.sides(1, 1);
        awake.set(0, 5, 1);
        awake.set(1, 5, 4);
        awake.pass(15);
        Due.due("those awake, too", awake.now(6), 0);
        WallShifts tapestry = Built.of(Built.TAPESTRY);
        tapestry.set(0, 5, 9);
        tapestry.pass(15);
        Due.due("a tapestry of 0 doesn't rest at its second quarter", tapestry.of(0, 5), 9);
    }

    @Says(in = Says.TERMS, value = "TIRED of all whose SIDE is the rest by 4 of it by SHIFT is 0.")
    static void restsEachMinuteWithAShiftOfOne() {
        WallShifts x = Built.sides(0, 1, 2, 3);
        x.rota(0, 1);
        for (int wall = 0; wall < 4; wall++) {
            x.set(wall, 5, 10);
        }
        int[] left = {30, 20, 10, 0};
        for (int i = 0; i < 4; i++) {
            x.pass(1);
            Due.due("at " + (i + 1), x.now(6), left[i]);
        }
    }

    // ---- section 2

    @Says(in = Says.TERMS, value = "IN n MINUTES: n MINUTES go on with all as it is, nothing being said; "
            + "nothing changes.")
    static void inMinutesNothingChanges() {
        // For five minutes from its seventh on rich() has a cover, for sixty it has none.
        Edges.unchanged(Built::rich, x -> x.safe(0, 30) + x.where(30) + x.quiet(0, 240)
                + x.worst(0, 240) + x.cover(0, 5) + x.shift(0, 60) + x.side(0, 0, 240));
        WallShifts x = Built.sides(0, 1, 2, 3);
        x.set(1, 5, 50);
        x.quiet(0, 240);
        Due.due("nobody rests", x.now(6), 50);
        Due.due("no minute goes", x.now(0), 0);
    }

    @Says(in = Says.TERMS, value = "UNHEARD: a ROOM is, in a MINUTE, if no WALL with a ROOM of its REACH is ON DUTY "
            + "(AWAKE or not).")
    static void unheard() {
        WallShifts x = new WallShifts();
        x.rota(1, 0);
        x.wall(0, 2, 3);
        x.wall(Built.THIN, 0, 2);
        x.set(1, 3, 1);
        Due.due("no wall at all", x.quiet(9, 1), 1);
        Due.due("by its room", x.quiet(2, 1), 0);
        Due.due("by its other room", x.quiet(3, 1), 0);
        Due.due("through a thin one that's off duty", x.quiet(0, 1), 0);
        x.set(0, 5, 99);
        Due.due("by one asleep", x.quiet(2, 1), 0);
        x.set(0, 3, 2);
        Due.due("by nobody on duty", x.quiet(2, 1), 1);
    }

    @Says(in = Says.TERMS, value = "(AWAKE or not).")
    static void unheardThoughAllSleep() {
        for (int minute : new int[] {1, 14, 15, 40, 59}) {
            WallShifts awake = overheard(minute, 0);
            WallShifts asleep = overheard(minute, 99);
            for (int room : new int[] {0, 1, 9}) {
                Due.due("safe", asleep.safe(room, 3), awake.safe(room, 3));
                Due.due("quiet", asleep.quiet(room, 60), awake.quiet(room, 60));
                Due.due("worst", asleep.worst(room, 60), awake.worst(room, 60));
                Due.due("cover", asleep.cover(room, 12), awake.cover(room, 12));
                Due.due("shift", asleep.shift(room, 60), awake.shift(room, 60));
                Due.due("side", asleep.side(1, room, 60), awake.side(1, room, 60));
            }
            Due.due("where", asleep.where(14), awake.where(14));
            Due.due("none awake", asleep.count(3), 0);
        }
    }

    /** Walls about all rooms, each so tired, in a minute. */
    private static WallShifts overheard(int minute, int tired) {
        WallShifts x = Built.sides(0, 1, 2, 3, 1);
        x.set(4, 1, 9);
        for (int room = 1; room < 9; room += 2) {
            x.set(x.wall(0, room, room + 1), 3, 1);
        }
        x.pass(minute);
        for (int wall = 0; wall < x.count(0); wall++) {
            x.set(wall, 5, tired);
        }
        return x;
    }

    // ---- section 3

    @Says(in = Says.TERMS, value = "SHEETS 0 to 3 are rows of at most 40 numbers of 8, 16 or 64 bits, "
            + "or MISSING (at first).")
    static void sheets() {
        for (int s = 0; s <= 3; s++) {
            WallShifts x = new WallShifts();
            Due.due("missing at first", x.write(s, 0, 1), Due.MISSING);
            for (int bits : new int[] {8, 16, 64}) {
                Due.due("forty", x.sheet(s, bits, 40), 40);
                Due.due("not 41", x.sheet(s, bits, 41), Due.BEYOND);
                Due.due("the last of forty", x.write(s, 39, 1), 0);
            }
            for (int bits : new int[] {1, 4, 24, 32, 48, 63, 65, 128}) {
                Due.due("not of " + bits, x.sheet(s, bits, 1), Due.BEYOND);
            }
        }
        Due.due("no sheet 4", new WallShifts().sheet(4, 8, 1), Due.BEYOND);
        Due.due("nor -1", new WallShifts().sheet(-1, 8, 1), Due.BEYOND);
    }
}
