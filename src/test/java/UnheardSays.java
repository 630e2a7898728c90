/** Promises 16 to 24, sentence by sentence: where and when something can be said unheard. */
final class UnheardSays {
    private UnheardSays() {
    }

    /** Plain walls of sides 0, 1 and 2 about room 0, a shift of 60 and no change: 180 to 239 are unheard. */
    private static WallShifts fourthHour() {
        WallShifts x = Built.sides(0, 1, 2);
        x.rota(0, 60);
        x.rota(1, 0);
        return x;
    }

    /** About each room a plain wall of side 0; the walls 0 to 4 have the rooms 0 and 1, 2 and 3, .. */
    private static WallShifts inPairs() {
        WallShifts x = new WallShifts();
        for (int room = 0; room < 10; room += 2) {
            x.wall(0, room, room + 1);
        }
        return x;
    }

    /** Nine thin walls join all rooms, and of each side is one: with no change each minute is heard. */
    private static WallShifts heardEverywhere() {
        WallShifts x = new WallShifts();
        x.rota(1, 0);
        for (int wall = 0; wall < 9; wall++) {
            x.wall(Built.THIN, wall, wall + 1);
            x.set(wall, 3, wall % 4);
        }
        return x;
    }

    private static WallShifts always() {
        WallShifts x = Built.sides(0, 1, 2, 3);
        x.rota(1, 0);
        return x;
    }

    /** Tapestries, each of a side, with no change. */
    private static WallShifts tapestries(int... sides) {
        WallShifts x = Built.sides(sides);
        x.rota(1, 0);
        for (int wall = 0; wall < sides.length; wall++) {
            x.turn(wall, Built.TAPESTRY);
        }
        return x;
    }

    // ---- promise 16

    @Says(in = 16, value = "In how many MINUTES (0 to 240) n MINUTES (1 to 30) begin,")
    static void safeNowAndSoon() {
        WallShifts x = Built.sides(0, 1, 2, 3);
        Due.due("this minute", x.safe(0, 1), 0);
        Due.due("this and the next", x.safe(0, 2), 0);
        x.pass(1);
        Due.due("one is left", x.safe(0, 1), 0);
        Due.due("two begin at 15", x.safe(0, 2), 14);
        x.pass(1);
        Due.due("one begins at 15", x.safe(0, 1), 13);
        x.pass(12);
        Due.due("from 14 on", x.safe(0, 1), 1);
        x.pass(1);
        Due.due("from 15 on", x.safe(0, 1), 0);
    }

    @Says(in = 16, value = "In how many MINUTES (0 to 240) n MINUTES (1 to 30) begin,")
    static void safeInAsManyMinutesAsCanBe() {
        WallShifts x = fourthHour();
        x.wall(Built.STONE, 0, 0);
        x.rota(2, Built.WINTER);
        // The stone hears 180, 240, ..: thirty begin at 181 to 210, and again at 421.
        x.pass(180);
        Due.due("from 180 on", x.safe(0, 30), 1);
        x.pass(1);
        Due.due("from 181 on", x.safe(0, 30), 0);
        x.pass(29);
        Due.due("from 210 on", x.safe(0, 30), 0);
        x.pass(1);
        Due.due("from 211 on", x.safe(0, 30), 210);
        Due.due("29 from 211 on", x.safe(0, 29), 0);
        x.pass(29);
        Due.due("from 240 on", x.safe(0, 1), 181);
    }

    @Says(in = 16, value = "one behind the other, in all of which a ROOM is UNHEARD;")
    static void safeOneBehindTheOther() {
        WallShifts x = Built.sides(0, 1, 2, 3);
        // Eight of sixty minutes are unheard, but never three in a row.
        Due.due("eight of sixty", x.quiet(0, 60), 8);
        Due.due("three in a row", x.safe(0, 3), Due.NONE);
        x.rota(1, 3);
        Due.due("with a change of three", x.safe(0, 3), 0);
    }

    @Says(in = 16, value = "one behind the other, in all of which a ROOM is UNHEARD;")
    static void safeThirtyOfThirty() {
        WallShifts x = Built.of(Built.STONE);
        x.rota(2, Built.WINTER);
        x.rota(0, 30);
        Due.due("29 between two strokes", x.safe(0, 29), 1);
        Due.due("not 30", x.safe(0, 30), Due.NONE);
        x.rota(0, 31);
        Due.due("30 between two strokes", x.safe(0, 30), 1);
        x.pass(2);
        Due.due("29 of them are left: the next thirty", x.safe(0, 30), 30);
    }

    @Says(in = 16, value = "the first such.")
    static void safeTheFirst() {
        WallShifts x = Built.sides(0, 2);
        x.pass(2);
        // Unheard are 15 to 31, 45 to 61, 75 to 91, ..
        Due.due("one", x.safe(0, 1), 13);
        Due.due("17", x.safe(0, 17), 13);
        Due.due("18", x.safe(0, 18), Due.NONE);
        x.pass(14);
        Due.due("17 from 16 on", x.safe(0, 17), 29);
        Edges.unchanged(Built::rich, y -> y.safe(0, 5));
    }

    @Says(in = 16, value = "BEYOND.")
    static void safeBeyondRoom() {
        Edges.range(Built::rich, 0, 9, (x, v) -> x.safe(v, 1));
        Edges.range(UnheardSays::heardEverywhere, 0, 9, (x, v) -> x.safe(v, 1));
    }

    @Says(in = 16, value = "BEYOND.")
    static void safeBeyondMinutes() {
        Edges.range(Built::rich, 1, 30, (x, v) -> x.safe(0, v));
        Edges.range(UnheardSays::heardEverywhere, 1, 30, (x, v) -> x.safe(0, v));
    }

    @Says(in = 16, value = "NONE.")
    static void safeNone() {
        Edges.refused(UnheardSays::always, x -> x.safe(0, 1), Due.NONE);
        Edges.refused(() -> Built.sides(0, 1, 2, 3), x -> x.safe(0, 3), Due.NONE);
    }

    @Says(in = 16, value = {"BEYOND.", "NONE."})
    static void safeHasNoState() {
        // What only looks ahead names no STATE: it goes on behind 99999, which the walls hear to 100004.
        Due.due("from 100005 on", Built.late().safe(0, 30), 6);
        Due.due("one", Built.late().safe(0, 1), 6);
    }

    // ---- promise 17

    @Says(in = 17, value = "The ROOM where n MINUTES (1 to 30) UNHEARD begin soonest;")
    static void whereSoonest() {
        WallShifts x = inPairs();
        x.pass(2);
        x.set(2, 3, 1);
        // Rooms 4 and 5 are unheard from 2 to 16, the others from 15 to 61.
        Due.due("one", x.where(1), 4);
        Due.due("fifteen", x.where(15), 4);
        Due.due("sixteen", x.where(16), 0);
        Due.due("thirty", x.where(30), 0);
        x.pass(1);
        Due.due("fourteen", x.where(14), 4);
        Due.due("fifteen a minute later", x.where(15), 0);
    }

    @Says(in = 17, value = "of several the least.")
    static void whereTheLeast() {
        WallShifts x = inPairs();
        Due.due("everywhere at the change", x.where(1), 0);
        x.pass(2);
        Due.due("everywhere in 13 minutes", x.where(1), 0);
        x.set(3, 3, 2);
        x.set(4, 3, 2);
        Due.due("in rooms 6 to 9 now", x.where(1), 6);
        x.set(3, 3, 0);
        Due.due("in rooms 8 and 9 now", x.where(1), 8);
        x.set(4, 1, 9);
        Due.due("room 8 has no wall at all", x.where(30), 8);
        x.set(4, 1, 8);
        x.set(4, 2, 8);
        x.set(4, 3, 0);
        Due.due("room 9 has none", x.where(30), 9);
        Edges.unchanged(Built::rich, y -> y.where(5));
        Due.due("no walls at all", new WallShifts().where(30), 0);
    }

    @Says(in = 17, value = "BEYOND.")
    static void whereBeyond() {
        Edges.range(Built::rich, 1, 30, (x, v) -> x.where(v));
        Edges.range(UnheardSays::heardEverywhere, 1, 30, (x, v) -> x.where(v));
    }

    @Says(in = 17, value = "NONE: nowhere within 240.")
    static void whereNone() {
        Edges.refused(UnheardSays::heardEverywhere, x -> x.where(1), Due.NONE);
        WallShifts x = heardEverywhere();
        x.rota(1, 1);
        Due.due("one minute at each change", x.where(1), 0);
        Due.due("never two", x.where(2), Due.NONE);
    }

    @Says(in = 17, value = "NONE: nowhere within 240.")
    static void whereAsLateAsCanBe() {
        // The walls of sides 0 to 2 fill three hours; all rooms are one by the thin ones.
        WallShifts x = heardEverywhere();
        x.rota(0, 60);
        for (int wall = 0; wall < 9; wall++) {
            x.set(wall, 3, wall % 3);
        }
        x.pass(211);
        Due.due("29 now", x.where(29), 0);
        Due.due("30 in 209 minutes", x.where(30), 0);
        Due.due("30 in 209 minutes, by safe", x.safe(9, 30), 209);
    }

    @Says(in = 17, value = {"BEYOND.", "NONE: nowhere within 240."})
    static void whereHasNoState() {
        Due.due("a room without a wall", Built.late().where(30), 1);
    }

    // ---- promise 18

    @Says(in = 18, value = "How many of the n MINUTES (1 to 240) from now on a ROOM is UNHEARD.")
    static void quietFromNowOn() {
        WallShifts x = Built.sides(0);
        Due.due("this one, a change", x.quiet(0, 1), 1);
        Due.due("three", x.quiet(0, 3), 2);
        x.pass(14);
        Due.due("this one, the quarter's last", x.quiet(0, 1), 0);
        Due.due("and the next", x.quiet(0, 2), 1);
        x.pass(1);
        Due.due("that one", x.quiet(0, 1), 1);
        Due.due("47 till it's on again", x.quiet(0, 47), 47);
        Due.due("and the one", x.quiet(0, 48), 47);
    }

    @Says(in = 18, value = "How many of the n MINUTES (1 to 240) from now on a ROOM is UNHEARD.")
    static void quietAllAndNone() {
        Due.due("all 240", new WallShifts().quiet(9, 240), 240);
        Due.due("none of 240", always().quiet(0, 240), 0);
        WallShifts x = fourthHour();
        Due.due("an hour of 240", x.quiet(0, 240), 60);
        Due.due("59 of 239", x.quiet(0, 239), 59);
        Due.due("none of 180", x.quiet(0, 180), 0);
        Due.due("one of 181", x.quiet(0, 181), 1);
        Edges.unchanged(Built::rich, y -> y.quiet(0, 240));
    }

    @Says(in = 18, value = "BEYOND.")
    static void quietBeyondRoom() {
        Edges.range(Built::rich, 0, 9, (x, v) -> x.quiet(v, 1));
    }

    @Says(in = 18, value = "BEYOND.")
    static void quietBeyondMinutes() {
        Edges.range(Built::rich, 1, 240, (x, v) -> x.quiet(0, v));
    }

    @Says(in = 18, value = "BEYOND.")
    static void quietHasNoState() {
        Due.due("to 100004", Built.late().quiet(0, 6), 0);
        Due.due("to 100005", Built.late().quiet(0, 7), 1);
        Due.due("13 of each sixty are heard, six of these", Built.late().quiet(0, 60), 47);
    }

    // ---- promise 19

    @Says(in = 19, value = "The WALL without which")
    static void worstInMostMinutes() {
        WallShifts x = Built.sides(0, 1);
        x.rota(1, 0);
        x.pass(14);
        Due.due("this minute is the first's", x.worst(0, 1), 0);
        Due.due("two are the second's", x.worst(0, 3), 1);
        Due.due("of 240 each has sixty", x.worst(0, 240), 0);
        x.turn(1, Built.TAPESTRY);
        Due.due("a tapestry has twice as many", x.worst(0, 240), 1);
    }

    @Says(in = 19, value = "(were it never ON DUTY)")
    static void worstLeaksStill() {
        WallShifts x = Built.empty();
        x.rota(1, 0);
        x.wall(Built.THIN, 0, 1);
        x.wall(Built.TAPESTRY, 1, 1);
        // Both hear 0 to 14, the tapestry 15 to 29. Were the thin one gone, none of them would be heard.
        Due.due("the tapestry", x.worst(0, 30), 1);
        Due.due("in the first quarter neither", x.worst(0, 15), Due.NONE);
    }

    @Says(in = 19, value = "a ROOM is UNHEARD in most of the n MINUTES (1 to 240) from now on, more than as it is;")
    static void worstMoreThanAsItIs() {
        WallShifts x = fourthHour();
        Due.due("each has an hour: the first", x.worst(0, 240), 0);
        x.wall(Built.WALL, 0, 0);
        Due.due("two of side 0 are no loss", x.worst(0, 60), Due.NONE);
        Due.due("the one of side 1, a minute", x.worst(0, 61), 1);
        x.pass(180);
        Due.due("nobody is on", x.worst(0, 60), Due.NONE);
        Due.due("later two have an hour each", x.worst(0, 240), 1);
    }

    @Says(in = 19, value = "a ROOM is UNHEARD in most of the n MINUTES (1 to 240) from now on, more than as it is;")
    static void worstInTheLastMinuteAsked() {
        WallShifts x = Built.sides(3);
        x.rota(0, 60);
        x.rota(1, 59);
        Due.due("239 from now is the only one", x.worst(0, 240), 0);
        Due.due("it's not among 239", x.worst(0, 239), Due.NONE);
    }

    @Says(in = 19, value = "of several the least.")
    static void worstTheLeast() {
        Due.due("four alike", Built.sides(3, 2, 1, 0).worst(0, 60), 0);
        WallShifts x = Built.sides(3, 2, 1, 0);
        x.wall(Built.WALL, 0, 0);
        x.set(4, 3, 3);
        Due.due("the first and the last are no loss", x.worst(0, 60), 1);
        Edges.unchanged(Built::rich, y -> y.worst(0, 60));
    }

    @Says(in = 19, value = "BEYOND.")
    static void worstBeyondRoom() {
        Edges.range(Built::rich, 0, 9, (x, v) -> x.worst(v, 1));
        Edges.range(Built::empty, 0, 9, (x, v) -> x.worst(v, 1));
    }

    @Says(in = 19, value = "BEYOND.")
    static void worstBeyondMinutes() {
        Edges.range(Built::rich, 1, 240, (x, v) -> x.worst(0, v));
        Edges.range(Built::empty, 1, 240, (x, v) -> x.worst(0, v));
    }

    @Says(in = 19, value = "NONE.")
    static void worstNone() {
        Edges.refused(Built::empty, x -> x.worst(0, 240), Due.NONE);
        Edges.refused(() -> Built.heard(0, 0), x -> x.worst(0, 240), Due.NONE);
        Edges.refused(() -> Built.of(0), x -> x.worst(0, 2), Due.NONE);
        Edges.refused(() -> Built.heard(0), x -> x.worst(1, 240), Due.NONE);
    }

    @Says(in = 19, value = {"BEYOND.", "NONE."})
    static void worstHasNoState() {
        WallShifts x = Built.late();
        x.set(0, 3, 3);
        // The wall of side 3 is on at 100007, eight minutes from now; that of side 2 now.
        Due.due("six are the second's", x.worst(0, 13), 1);
        Due.due("of 13 behind the change the first has more", x.worst(0, 21), 0);
    }

    // ---- promise 20

    @Says(in = 20, value = "The least set of fewest WALLS")
    static void coverByTheFewest() {
        WallShifts x = always();
        Due.due("four", x.cover(0, 60), 15);
        Due.due("three for 45", x.cover(0, 45), 7);
        Due.due("four for 46", x.cover(0, 46), 15);
        x.wall(Built.TAPESTRY, 0, 0);
        x.wall(Built.TAPESTRY, 0, 0);
        x.set(5, 3, 2);
        Due.due("two, though they're greater as a set", x.cover(0, 60), 48);
        Due.due("one", x.cover(0, 30), 16);
        Due.due("for 31 two, the first of them the tapestry", x.cover(0, 31), 4 | 16);
    }

    @Says(in = 20, value = "The least set of fewest WALLS")
    static void coverByTheLeastSet() {
        // 0 and 3 would do, 1 and 2 do: as a set that is 6, and less than 9.
        Due.due("the lesser set", tapestries(0, 1, 3, 2).cover(0, 60), 6);
        Due.due("one of two alike", Built.heard(0, 0).cover(0, 15), 1);
        WallShifts x = Built.heard(0, 0, 0, 0, 0, 0, 0, 0, 0, 0);
        Due.due("one of ten alike", x.cover(0, 15), 1);
        for (int wall = 0; wall < 9; wall++) {
            x.set(wall, 3, 1);
        }
        Due.due("the tenth", x.cover(0, 15), 512);
        Due.due("the tenth and one of nine", x.cover(0, 30), 513);
    }

    @Says(in = 20, value = "which alone let a ROOM be UNHEARD in none of the n MINUTES (1 to 60) from now on")
    static void coverInNoneOfTheMinutes() {
        WallShifts x = Built.sides(0);
        x.rota(0, 60);
        x.rota(1, 0);
        Due.due("all sixty", x.cover(0, 60), 1);
        x.pass(1);
        Due.due("59 are left", x.cover(0, 59), 1);
        Due.due("the sixtieth is not", x.cover(0, 60), Due.NONE);
        x.pass(58);
        Due.due("its last minute", x.cover(0, 1), 1);
        x.pass(1);
        Due.due("over", x.cover(0, 1), Due.NONE);
        Due.due("asleep is as good as awake", asleep().cover(0, 15), 1);
        Edges.unchanged(UnheardSays::always, y -> y.cover(0, 60));
    }

    private static WallShifts asleep() {
        WallShifts x = Built.heard(0);
        x.set(0, 5, 99);
        return x;
    }

    @Says(in = 20, value = "(REACH as it is)")
    static void coverThroughAThinOneThatIsNoneOfThem() {
        WallShifts x = Built.heard(Built.THIN);
        x.set(0, 2, 1);
        x.set(0, 3, 1);
        x.wall(Built.WALL, 1, 1);
        Due.due("the one behind it", x.cover(0, 15), 2);
        x.turn(0, Built.WALL);
        Due.due("it is none of room 0 now", x.cover(0, 15), Due.NONE);
    }

    @Says(in = 20, value = "which alone let a ROOM be UNHEARD in none of the n MINUTES (1 to 60) from now on "
            + "(REACH as it is)")
    static void coverByNoneOfAnotherRoom() {
        WallShifts x = Built.heard(0, 0, 0);
        x.set(0, 1, 5);
        x.set(0, 2, 5);
        x.set(1, 1, 5);
        x.set(1, 2, 0);
        Due.due("room 0, by one that has it as the other", x.cover(0, 15), 2);
        Due.due("room 5, by the least", x.cover(5, 15), 1);
        x.set(1, 2, 5);
        Due.due("room 0, by the third", x.cover(0, 15), 4);
        x.set(2, 3, 1);
        Due.due("room 0, by none", x.cover(0, 15), Due.NONE);
    }

    @Says(in = 20, value = "BEYOND.")
    static void coverBeyondRoom() {
        Edges.range(Built::rich, 0, 9, (x, v) -> x.cover(v, 1));
        Edges.range(UnheardSays::heardEverywhere, 0, 9, (x, v) -> x.cover(v, 1));
    }

    @Says(in = 20, value = "BEYOND.")
    static void coverBeyondMinutes() {
        Edges.range(Built::rich, 1, 60, (x, v) -> x.cover(0, v));
        Edges.range(UnheardSays::always, 1, 60, (x, v) -> x.cover(0, v));
    }

    @Says(in = 20, value = "NONE: not even all do.")
    static void coverNone() {
        Edges.refused(Built::empty, x -> x.cover(0, 1), Due.NONE);
        Edges.refused(() -> Built.sides(0, 1, 2, 3), x -> x.cover(0, 1), Due.NONE);
        Edges.refused(() -> Built.heard(0, 0), x -> x.cover(0, 16), Due.NONE);
        Edges.refused(() -> Built.heard(0, 0), x -> x.cover(1, 1), Due.NONE);
    }

    @Says(in = 20, value = {"BEYOND.", "NONE: not even all do."})
    static void coverHasNoState() {
        Due.due("to 100004", Built.late().cover(0, 6), 1);
        Due.due("to 100005, a change", Built.late().cover(0, 7), Due.NONE);
    }

    // ---- promise 21

    @Says(in = 21, value = "The SHIFT (1 to 60)")
    static void shiftTheShortestAndTheLongest() {
        Due.due("one minute: any does", Built.heard(0).shift(0, 1), 1);
        Due.due("sixty in one", Built.heard(0).shift(0, 60), 60);
        Due.due("59 in one", Built.heard(0).shift(0, 59), 59);
    }

    @Says(in = 21, value = "with which a ROOM is UNHEARD in fewest of the n MINUTES (1 to 60) from now on;")
    static void shiftWithFewestUnheard() {
        // With a change of 2 the third minute is heard with 3 or more.
        Due.due("three minutes", Built.sides(0).shift(0, 3), 3);
        WallShifts x = Built.sides(3);
        x.rota(1, 0);
        x.pass(50);
        // By 7 the minutes 50 to 54 are all the eighth quarter, 3 by 4; by less they aren't.
        Due.due("50 to 54", x.shift(0, 5), 7);
        // By 13 the minutes 39 to 51 are 3 by 4, by 14 those from 42 to 55.
        Due.due("50 to 55", x.shift(0, 6), 7);
        Due.due("50 to 56", x.shift(0, 7), 15);
        Due.due("the shift stays", x.now(1), 15);
        Edges.unchanged(Built::rich, y -> y.shift(0, 60));
    }

    @Says(in = 21, value = "of several the least.")
    static void shiftTheLeast() {
        Due.due("nobody hears, whichever it be", new WallShifts().shift(0, 60), 1);
        Due.due("all hear, whichever it be", always().shift(0, 60), 1);
        WallShifts x = Built.sides(0);
        x.rota(1, 60);
        Due.due("never on duty", x.shift(0, 60), 1);
    }

    @Says(in = 21, value = "BEYOND.")
    static void shiftBeyondRoom() {
        Edges.range(Built::rich, 0, 9, (x, v) -> x.shift(v, 1));
    }

    @Says(in = 21, value = "BEYOND.")
    static void shiftBeyondMinutes() {
        Edges.range(Built::rich, 1, 60, (x, v) -> x.shift(0, v));
    }

    @Says(in = 21, value = "BEYOND.")
    static void shiftHasNoState() {
        WallShifts x = Built.late();
        x.rota(1, 0);
        // By 6 the minutes 99996 to 100001 are 16666, which leaves 2; by 7 to 14 there are no more such behind them.
        Due.due("to 100001", x.shift(0, 3), 6);
        Due.due("to 100002, by 15 as it is", x.shift(0, 4), 15);
    }

    // ---- promise 22

    @Says(in = 22, value = "The SIDE for a WALL with which a ROOM is UNHEARD in fewest of the n MINUTES (1 to 240) "
            + "from now on;")
    static void sideThatIsMissing() {
        for (int missing = 0; missing <= 3; missing++) {
            WallShifts x = new WallShifts();
            for (int side = 0; side <= 3; side++) {
                x.wall(0, 0, 0);
                x.set(side, 3, side == missing ? (side + 1) % 4 : side);
            }
            Due.due("the one that's missing", x.side(missing, 0, 240), missing);
            Due.due("in sixty minutes", x.side(missing, 0, 60), missing);
        }
    }

    @Says(in = 22, value = "The SIDE for a WALL with which a ROOM is UNHEARD in fewest of the n MINUTES (1 to 240) "
            + "from now on;")
    static void sideInTheMinutesAsked() {
        WallShifts x = Built.sides(0);
        x.rota(1, 0);
        x.pass(44);
        Due.due("this minute alone", x.side(0, 0, 1), 2);
        Due.due("one of each", x.side(0, 0, 2), 2);
        Due.due("two of 45 on", x.side(0, 0, 3), 3);
        Due.due("two hundred and forty are sixty of each", x.side(0, 0, 240), 0);
        x.rota(0, 60);
        x.rota(1, 59);
        x.pass(16);
        // From 60 on: 119 is 1, 179 is 2, 239 is 3, and 299 the 240th.
        Due.due("the 240th minute", x.side(0, 0, 240), 0);
        Due.due("239 have none of 0", x.side(0, 0, 239), 1);
    }

    @Says(in = 22, value = "The SIDE for a WALL with which a ROOM is UNHEARD in fewest of the n MINUTES (1 to 240) "
            + "from now on;")
    static void sideOfATapestry() {
        WallShifts x = Built.sides(1, 2, 0);
        x.turn(2, Built.TAPESTRY);
        Due.due("3, for the last quarter and the first", x.side(2, 0, 60), 3);
        Edges.unchanged(Built::rich, y -> y.side(2, 0, 60));
    }

    @Says(in = 22, value = "of several the least.")
    static void sideTheLeast() {
        Due.due("of a room that isn't its own", Built.sides(3).side(0, 7, 240), 0);
        WallShifts x = Built.sides(3, 0);
        Due.due("of 1, 2, 3", x.side(0, 0, 60), 1);
        x.rota(1, 60);
        Due.due("never on duty", x.side(0, 0, 60), 0);
    }

    @Says(in = 22, value = "BEYOND.")
    static void sideBeyondWall() {
        Edges.range(Built::rich, 0, 2, (x, v) -> x.side(v, 0, 1));
        Edges.refused(Built::empty, x -> x.side(0, 0, 1), Due.BEYOND);
    }

    @Says(in = 22, value = "BEYOND.")
    static void sideBeyondRoom() {
        Edges.range(Built::rich, 0, 9, (x, v) -> x.side(0, v, 1));
    }

    @Says(in = 22, value = "BEYOND.")
    static void sideBeyondMinutes() {
        Edges.range(Built::rich, 1, 240, (x, v) -> x.side(0, 0, v));
    }

    @Says(in = 22, value = "BEYOND.")
    static void sideHasNoState() {
        WallShifts x = Built.late();
        x.set(1, 1, 5);
        x.set(1, 2, 5);
        Due.due("six minutes", x.side(0, 0, 6), 2);
        Due.due("thirty: behind the change 13 are the last quarter's", x.side(0, 0, 30), 3);
    }

    // ---- promise 23

    @Says(in = 23, value = "Which of WORDS of a set, SAID as speak() does from now on, nobody would hear, as a set;")
    static void lostAllAndNone() {
        Due.due("all", new WallShifts().lost(9, 65535), 65535);
        Due.due("of none", new WallShifts().lost(9, 0), 0);
        Due.due("the last", new WallShifts().lost(9, 32768), 32768);
        WallShifts x = Built.heard(0);
        x.rota(0, 60);
        x.rota(3, 20);
        Due.due("none", x.lost(0, 65535), 0);
        Due.due("in a room without a wall", x.lost(1, 65535), 65535);
    }

    @Says(in = 23, value = "Which of WORDS of a set, SAID as speak() does from now on, nobody would hear, as a set;")
    static void lostByTheMinuteInWhichEachIsSaid() {
        WallShifts x = Built.of(0);
        // In 0 and 1 is the change; it hears in 2 to 6 and sleeps then.
        Due.due("of sixteen", x.lost(0, 65535), 65535 & ~0b1111100);
        Due.due("of words 3, 9, 12 the third alone is heard", x.lost(0, 1 << 3 | 1 << 9 | 1 << 12), 1 << 3 | 1 << 9);
        x.pass(13);
        Due.due("of three at 13, 14, 15", x.lost(0, 7), 4);
    }

    @Says(in = 23, value = "Which of WORDS of a set, SAID as speak() does from now on, nobody would hear, as a set;")
    static void lostTillOneHasRested() {
        WallShifts x = Built.sides(1);
        x.rota(1, 0);
        x.set(0, 5, 99);
        x.pass(13);
        Due.due("it rests at 15", x.lost(0, 7), 3);
        WallShifts stone = Built.heard(Built.STONE);
        Due.due("stone hears nothing of 0 to 3", stone.lost(0, 0b11111), 0b1111);
        WallShifts two = Built.heard(Built.STONE, Built.WALL);
        Due.due("one that hears is enough", two.lost(0, 0b11111), 0);
    }

    @Says(in = 23, value = "nothing changes.")
    static void lostChangesNothing() {
        Edges.unchanged(Built::rich, x -> x.lost(0, 65535));
        WallShifts x = Built.heard(0);
        Due.due("heard", x.lost(0, 1), 0);
        Due.due("heard again", x.lost(0, 1), 0);
        Due.due("not filed", x.of(0, 4), 0);
        Due.due("not tired", x.of(0, 5), 0);
        Due.due("no minute went", x.now(0), 0);
    }

    @Says(in = 23, value = "BEYOND.")
    static void lostBeyondRoom() {
        Edges.range(Built::rich, 0, 9, (x, v) -> x.lost(v, 1));
    }

    @Says(in = 23, value = "BEYOND.")
    static void lostBeyondWords() {
        Edges.range(Built::rich, 0, 65535, (x, v) -> x.lost(0, v));
    }

    @Says(in = 23, value = "BEYOND.")
    static void lostHasNoState() {
        // Two walls of side 2 are on from 99990 to 100004, but at 99990 and 99991; at 100005 they go off.
        Due.due("six are heard but for sleep", Built.late().lost(0, 127), 64 | 32);
    }

    // ---- promise 24

    @Says(in = 24, value = "The ROOM in which fewest hearings would come of a set SAID as speak() does from now on;")
    static void bestWithFewest() {
        WallShifts x = new WallShifts();
        x.rota(1, 0);
        for (int room = 0; room < 10; room++) {
            x.wall(Built.WALL, room, room);
        }
        for (int room = 0; room < 10; room++) {
            x.set(room, 5, 4);
            Due.due("this one hears once, the others twice", x.best(3), room);
            x.set(room, 5, 0);
        }
        x.turn(9, Built.STONE);
        Due.due("of 0 to 4 stone hears one", x.best(31), 9);
        Due.due("of 0 to 15 it hears eleven, the others five", x.best(65535), 0);
    }

    @Says(in = 24, value = "The ROOM in which fewest hearings would come of a set SAID as speak() does from now on;")
    static void bestOfManyHearings() {
        // A ring of ten rooms, two walls about each: 32 hearings of sixteen words, but 28 where one is of stone.
        WallShifts x = new WallShifts();
        x.rota(0, 60);
        x.rota(1, 0);
        x.rota(3, 20);
        for (int room = 0; room < 10; room++) {
            x.wall(room == 4 ? Built.STONE : Built.WALL, room, (room + 1) % 10);
        }
        Due.due("the lesser room of the stone one", x.best(65535), 4);
        Due.due("28 of them", x.speak(4, 65535), 28);
    }

    @Says(in = 24, value = "The ROOM in which fewest hearings would come of a set SAID as speak() does from now on;")
    static void bestCountsHearingsAsTheMinutesGo() {
        WallShifts x = new WallShifts();
        for (int wall = 0; wall < 10; wall++) {
            x.wall(Built.WALL, wall, wall);
        }
        x.set(7, 3, 1);
        x.pass(14);
        // The first word is said at 14; of the others, at 15 and 16, both at the change, nothing is heard.
        Due.due("off duty at 14", x.best(7), 7);
        x.pass(3);
        Due.due("on duty at 17: the least of the others", x.best(7), 0);
    }

    @Says(in = 24, value = "of several the least;")
    static void bestTheLeast() {
        Due.due("no walls", new WallShifts().best(65535), 0);
        Due.due("no words", Built.heard(0).best(0), 0);
        Due.due("all but room 0", Built.heard(0).best(1), 1);
    }

    @Says(in = 24, value = "nothing changes.")
    static void bestChangesNothing() {
        Edges.unchanged(Built::rich, x -> x.best(65535));
        WallShifts x = Built.heard(0);
        x.best(65535);
        Due.due("not filed", x.of(0, 4), 0);
        Due.due("not tired", x.of(0, 5), 0);
        Due.due("no minute went", x.now(0), 0);
    }

    @Says(in = 24, value = "BEYOND.")
    static void bestBeyond() {
        Edges.range(Built::rich, 0, 65535, (x, v) -> x.best(v));
    }

    @Says(in = 24, value = "BEYOND.")
    static void bestHasNoState() {
        Due.due("a room without a wall", Built.late().best(65535), 1);
    }
}
