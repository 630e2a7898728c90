import java.util.Arrays;

/**
 * A palace whose walls listen in shifts. What each call promises stands in ../shared/DOC.md; sets
 * of rooms, words and walls are told by bits.
 */
public final class WallShifts {
    private static final int BEYOND = -1000000001;
    private static final int FULL = -1000000002;
    private static final int KIND = -1000000003;
    private static final int NONE = -1000000004;
    private static final int STATE = -1000000005;
    private static final int MISSING = -1000000006;
    private static final int SIZE = -1000000007;
    private static final int FINDINGS = 7;

    private static final int ROOMS = 10;
    private static final int WORDS = 16;
    private static final int ALL_WORDS = 65535;
    private static final int LAST_MINUTE = 99999;
    private static final int MOST_TIRED = 99;

    private static final int WALL = 0;
    private static final int NORTH = 1;
    private static final int PAPERED = 2;
    private static final int THIN = 3;
    private static final int STONE = 4;
    private static final int TAPESTRY = 5;
    private static final int KINDS = 6;
    /** The kind above each kind; -1 above the topmost. */
    private static final int[] ABOVE = {-1, WALL, WALL, WALL, NORTH, PAPERED};
    private static final int LOUD_FOR_STONE = 4;

    private static final int MOST_WALLS = 10;
    /** The numbers that a wall is, in the order in which of() and set() name them. */
    private static final int OF_KIND = 0;
    private static final int OF_ROOM = 1;
    private static final int OF_OTHER = 2;
    private static final int OF_SIDE = 3;
    private static final int OF_FILE = 4;
    private static final int OF_TIRED = 5;
    private static final int PARTS = 6;
    private static final int[] MOST_OF_PART = {KINDS - 1, ROOMS - 1, ROOMS - 1, 3, ALL_WORDS, MOST_TIRED};
    private static final int SIDES = 4;

    /** The numbers of the rota, in the order in which rota() names them. */
    private static final int SHIFT = 0;
    private static final int CHANGE = 1;
    private static final int SEASON = 2;
    private static final int COURAGE = 3;
    private static final int ROTAS = 4;
    private static final int[] LEAST_OF_ROTA = {1, 0, 0, 1};
    private static final int[] MOST_OF_ROTA = {60, 60, 3, 20};
    private static final int WINTER = 3;

    private static final int MOST_BEGIN = 240;
    private static final int MOST_IN_SILENCE = 30;
    private static final int MOST_AHEAD = 240;
    private static final int MOST_CLOSE = 60;

    private static final int MOST_BYTES = 120;
    private static final int MOST_SHEETS = 4;
    private static final int MOST_NUMBERS = 40;

    private final Palace state = new Palace();
    private final Palace kept = new Palace();
    private boolean hasKept = false;
    /** A palace in which a call tries what may not change the real one. */
    private final Palace trial = new Palace();
    private final Tape tape = new Tape();
    private final Sheet[] sheets = new Sheet[MOST_SHEETS];
    private final int[] answered = new int[FINDINGS];
    /** The sets on duty in the minutes ahead, as foresee() left them. */
    private final int[] ahead = new int[MOST_BEGIN + MOST_IN_SILENCE];

    public WallShifts() {
        for (int s = 0; s < MOST_SHEETS; s++) {
            sheets[s] = new Sheet();
        }
    }

    // ---- the palace

    public int rota(int what, int v) {
        if (!mayBeRota(what, v)) {
            return finding(BEYOND);
        }
        int was = state.rotas[what];
        state.rotas[what] = v;
        return was;
    }

    public int wall(int kind, int room, int other) {
        if (!isKind(kind) || !isRoom(room) || !isRoom(other)) {
            return finding(BEYOND);
        }
        if (state.isBuiltUp()) {
            return finding(FULL);
        }
        return state.build(kind, room, other, 0);
    }

    public int of(int wall, int what) {
        if (!isWall(wall)) {
            return finding(BEYOND);
        }
        int[] w = state.walls[wall];
        if (isIn(what, 0, PARTS - 1)) {
            return w[what];
        }
        switch (what) {
            case 6:
                return state.dutyOf(wall, state.minute) ? 1 : 0;
            case 7:
                return state.isAwake(w) ? 1 : 0;
            case 8:
                return tires(w[OF_KIND]);
            default:
                return finding(BEYOND);
        }
    }

    public int set(int wall, int what, int v) {
        if (!isWall(wall) || !isIn(what, OF_ROOM, OF_TIRED) || !isIn(v, 0, MOST_OF_PART[what])) {
            return finding(BEYOND);
        }
        return state.replace(wall, what, v);
    }

    public int turn(int wall, int kind) {
        if (!isWall(wall) || !isKind(kind)) {
            return finding(BEYOND);
        }
        return state.replace(wall, OF_KIND, kind);
    }

    public int as(int wall, int kind) {
        if (!isWall(wall) || !isKind(kind)) {
            return finding(BEYOND);
        }
        int[] w = state.walls[wall];
        if (!isUnder(w[OF_KIND], kind)) {
            return finding(KIND);
        }
        return w[OF_FILE];
    }

    public int hears(int wall, int word) {
        if (!isWall(wall) || !isWord(word)) {
            return finding(BEYOND);
        }
        int becomes = becomes(state.walls[wall], word);
        return becomes < 0 ? finding(NONE) : becomes;
    }

    // ---- what is said

    public int say(int room, int word) {
        if (!isRoom(room) || !isWord(word)) {
            return finding(BEYOND);
        }
        return state.utter(state.near(room), word);
    }

    public int pass(int n) {
        if (!isIn(n, 1, MOST_AHEAD)) {
            return finding(BEYOND);
        }
        if (state.minute > LAST_MINUTE - n) {
            return finding(STATE);
        }
        for (int i = 0; i < n; i++) {
            state.goOn();
        }
        return state.minute;
    }

    public int speak(int room, int words) {
        if (!isRoom(room) || !isSetOfWords(words)) {
            return finding(BEYOND);
        }
        if (state.minute > LAST_MINUTE - Integer.bitCount(words)) {
            return finding(STATE);
        }
        return state.utterAll(room, words);
    }

    public int reach(int room) {
        return isRoom(room) ? state.leaks(room) : finding(BEYOND);
    }

    public int duty(int minute) {
        if (!isIn(minute, 0, LAST_MINUTE)) {
            return finding(BEYOND);
        }
        return state.onDuty(minute, state.rotas[SHIFT]);
    }

    public int now(int what) {
        switch (what) {
            case 0:
                return state.minute;
            case 1:
                return state.rotas[SHIFT];
            case 2:
                return state.rotas[CHANGE];
            case 3:
                return state.rotas[SEASON];
            case 4:
                return state.rotas[COURAGE];
            case 5:
                return state.wordsInFiles();
            case 6:
                return state.tiredTogether();
            default:
                return finding(BEYOND);
        }
    }

    public int filed(int word) {
        return isWord(word) ? state.filesWith(word) : finding(BEYOND);
    }

    // ---- unheard

    public int safe(int room, int n) {
        if (!isRoom(room) || !isIn(n, 1, MOST_IN_SILENCE)) {
            return finding(BEYOND);
        }
        foresee(MOST_BEGIN + n);
        int begin = firstSilence(room, n);
        return begin < 0 ? finding(NONE) : begin;
    }

    public int where(int n) {
        if (!isIn(n, 1, MOST_IN_SILENCE)) {
            return finding(BEYOND);
        }
        foresee(MOST_BEGIN + n);
        int soonest = MOST_BEGIN + 1;
        int place = -1;
        for (int room = 0; room < ROOMS; room++) {
            int begin = firstSilence(room, n);
            if (begin >= 0 && begin < soonest) {
                soonest = begin;
                place = room;
            }
        }
        return place < 0 ? finding(NONE) : place;
    }

    public int quiet(int room, int n) {
        if (!isRoom(room) || !isIn(n, 1, MOST_AHEAD)) {
            return finding(BEYOND);
        }
        return state.silentMinutes(state.near(room), n, state.rotas[SHIFT]);
    }

    public int worst(int room, int n) {
        if (!isRoom(room) || !isIn(n, 1, MOST_AHEAD)) {
            return finding(BEYOND);
        }
        foresee(n);
        int near = state.near(room);
        int most = 0;
        int place = -1;
        for (int i = 0; i < state.count; i++) {
            int minutes = minutesAlone(1 << i, near, n);
            if (minutes > most) {
                most = minutes;
                place = i;
            }
        }
        return place < 0 ? finding(NONE) : place;
    }

    public int cover(int room, int n) {
        if (!isRoom(room) || !isIn(n, 1, MOST_CLOSE)) {
            return finding(BEYOND);
        }
        foresee(n);
        int near = state.near(room);
        if (!hearsAlways(near, n)) {
            return finding(NONE);
        }
        int best = near;
        // The sets go upwards, so the first of equally few is the least.
        for (int some = 0; some < near; some++) {
            boolean isOfThese = (some & ~near) == 0;
            if (isOfThese && Integer.bitCount(some) < Integer.bitCount(best) && hearsAlways(some, n)) {
                best = some;
            }
        }
        return best;
    }

    public int shift(int room, int n) {
        if (!isRoom(room) || !isIn(n, 1, MOST_CLOSE)) {
            return finding(BEYOND);
        }
        int near = state.near(room);
        int fewest = n + 1;
        int best = 1;
        for (int by = LEAST_OF_ROTA[SHIFT]; by <= MOST_OF_ROTA[SHIFT]; by++) {
            int silent = state.silentMinutes(near, n, by);
            if (silent < fewest) {
                fewest = silent;
                best = by;
            }
        }
        return best;
    }

    public int side(int wall, int room, int n) {
        if (!isWall(wall) || !isRoom(room) || !isIn(n, 1, MOST_AHEAD)) {
            return finding(BEYOND);
        }
        int near = state.near(room);
        int fewest = n + 1;
        int best = 0;
        trial.become(state);
        for (int side = 0; side < SIDES; side++) {
            trial.replace(wall, OF_SIDE, side);
            int silent = trial.silentMinutes(near, n, trial.rotas[SHIFT]);
            if (silent < fewest) {
                fewest = silent;
                best = side;
            }
        }
        return best;
    }

    public int lost(int room, int words) {
        if (!isRoom(room) || !isSetOfWords(words)) {
            return finding(BEYOND);
        }
        trial.become(state);
        trial.utterAll(room, words);
        return trial.unheardWords;
    }

    public int best(int words) {
        if (!isSetOfWords(words)) {
            return finding(BEYOND);
        }
        int fewest = WORDS * MOST_WALLS + 1;
        int place = 0;
        for (int room = 0; room < ROOMS; room++) {
            trial.become(state);
            int hearings = trial.utterAll(room, words);
            if (hearings < fewest) {
                fewest = hearings;
                place = room;
            }
        }
        return place;
    }

    // ---- the text

    public int feed(int bytes, int n) {
        if (!isIn(n, 1, 4)) {
            return finding(BEYOND);
        }
        if (tape.size > MOST_BYTES - n) {
            return finding(FULL);
        }
        for (int i = n - 1; i >= 0; i--) {
            tape.append(bytes >> 8 * i & 255);
        }
        return tape.size;
    }

    public int wipe() {
        return tape.clear();
    }

    public int palace() {
        trial.become(state);
        int items = tape.tell(trial);
        if (items >= 0) {
            state.become(trial);
        }
        tape.clear();
        return items;
    }

    // ---- sheets

    public int sheet(int s, int bits, int n) {
        if (!isSheet(s) || bits != 0 && bits != 8 && bits != 16 && bits != 64) {
            return finding(BEYOND);
        }
        if (n < 0) {
            return finding(SIZE);
        }
        if (n > MOST_NUMBERS) {
            return finding(BEYOND);
        }
        return sheets[s].renew(bits, n);
    }

    public long write(int s, int i, long v) {
        if (!isSheet(s)) {
            return finding(BEYOND);
        }
        if (sheets[s].isMissing()) {
            return finding(MISSING);
        }
        if (!isIn(i, 0, sheets[s].size - 1)) {
            return finding(BEYOND);
        }
        long was = sheets[s].numbers[i];
        sheets[s].put(i, v);
        return was;
    }

    public int copy(int s, int from, int t, int to, int n) {
        if (!isSheet(s) || !isSheet(t)) {
            return finding(BEYOND);
        }
        Sheet source = sheets[s];
        Sheet target = sheets[t];
        if (source.isMissing() || target.isMissing()) {
            return finding(MISSING);
        }
        if (source.bits != target.bits) {
            return finding(KIND);
        }
        if (!source.hasPart(from, n) || !target.hasPart(to, n)) {
            return finding(BEYOND);
        }
        System.arraycopy(source.numbers, from, target.numbers, to, n);
        return n;
    }

    public int lays(int s) {
        if (!isSheet(s)) {
            return finding(BEYOND);
        }
        Sheet sheet = sheets[s];
        if (sheet.isMissing()) {
            return finding(MISSING);
        }
        int came = 0;
        for (int i = 0; i < sheet.size && i < state.count; i++) {
            long file = sheet.numbers[i];
            if (file >= 0 && file <= ALL_WORDS) {
                state.replace(i, OF_FILE, (int) file);
                came++;
            }
        }
        return came;
    }

    public int book(int s, int wall) {
        if (!isSheet(s)) {
            return finding(BEYOND);
        }
        Sheet sheet = sheets[s];
        if (sheet.isMissing()) {
            return finding(MISSING);
        }
        if (!isWall(wall)) {
            return finding(BEYOND);
        }
        for (int i = 0; i < sheet.size; i++) {
            sheet.put(i, state.dutyOf(wall, state.minute + i) ? 1 : 0);
        }
        return sheet.size;
    }

    public int read(int s, int wall) {
        if (!isSheet(s)) {
            return finding(BEYOND);
        }
        Sheet sheet = sheets[s];
        if (sheet.isMissing()) {
            return finding(MISSING);
        }
        if (!isWall(wall)) {
            return finding(BEYOND);
        }
        // Whether one is on duty hangs on its kind and side alone, so any wall may stand for this one.
        int pairs = 0;
        for (int kind = 0; kind < KINDS; kind++) {
            for (int side = 0; side < SIDES; side++) {
                pairs += isBookOf(sheet, kind, side) ? 1 : 0;
            }
        }
        return pairs;
    }

    // ---- images

    public int image() {
        kept.become(state);
        hasKept = true;
        return 1;
    }

    public int undo() {
        if (!hasKept) {
            return finding(NONE);
        }
        state.become(kept);
        return state.count;
    }

    public int tear() {
        int had = hasKept ? 1 : 0;
        hasKept = false;
        return had;
    }

    public int count(int what) {
        switch (what) {
            case 0:
                return state.count;
            case 1:
                return tape.size;
            case 2:
                return state.wordsCountedEach();
            case 3:
                return state.howManyAwake();
            default:
                return finding(BEYOND);
        }
    }

    public int status(int which) {
        if (isIn(which, 0, FINDINGS - 1)) {
            return answered[which];
        }
        if (which != -1) {
            return finding(BEYOND);
        }
        int all = 0;
        for (int i = 0; i < FINDINGS; i++) {
            all += answered[i];
        }
        return all;
    }

    // ---- what the calls share

    private int finding(int which) {
        int i = BEYOND - which;
        if (isIn(i, 0, FINDINGS - 1)) {
            answered[i]++;
        }
        return which;
    }

    private boolean isWall(int wall) {
        return isIn(wall, 0, state.count - 1);
    }

    /** Leaves the sets on duty in the n minutes from now on in the row ahead. */
    private void foresee(int n) {
        for (int i = 0; i < n && i < ahead.length; i++) {
            ahead[i] = state.onDuty(state.minute + i, state.rotas[SHIFT]);
        }
    }

    /** In how many of the n minutes foreseen one wall alone of those near is on duty. */
    private int minutesAlone(int one, int near, int n) {
        int minutes = 0;
        for (int i = 0; i < n && i < ahead.length; i++) {
            minutes += (ahead[i] & near) == one ? 1 : 0;
        }
        return minutes;
    }

    /** Whether one of these walls is on duty in each of the n minutes foreseen. */
    private boolean hearsAlways(int these, int n) {
        for (int i = 0; i < n && i < ahead.length; i++) {
            if ((ahead[i] & these) == 0) {
                return false;
            }
        }
        return true;
    }

    /** Where the first n foreseen minutes begin in which a room is unheard, or -1. */
    private int firstSilence(int room, int n) {
        int near = state.near(room);
        int silent = 0;
        for (int i = 0; i < MOST_BEGIN + n && i < ahead.length; i++) {
            silent = (ahead[i] & near) == 0 ? silent + 1 : 0;
            if (silent >= n) {
                return i - n + 1;
            }
        }
        return -1;
    }

    /** Whether a sheet tells when one of a kind and a side is on duty from now on. */
    private boolean isBookOf(Sheet sheet, int kind, int side) {
        for (int i = 0; i < sheet.size; i++) {
            int t = state.minute + i;
            int by = state.rotas[SHIFT];
            boolean due = state.listens(kind, side, quarterOf(t, by), restOf(t, by));
            if (sheet.numbers[i] != (due ? 1 : 0)) {
                return false;
            }
        }
        return true;
    }

    // ---- what can be asked without a palace

    private static boolean isIn(int v, int least, int most) {
        return v >= least && v <= most;
    }

    private static boolean isKind(int kind) {
        return isIn(kind, 0, KINDS - 1);
    }

    private static boolean isRoom(int room) {
        return isIn(room, 0, ROOMS - 1);
    }

    private static boolean isWord(int word) {
        return isIn(word, 0, WORDS - 1);
    }

    private static boolean isSetOfWords(int words) {
        return isIn(words, 0, ALL_WORDS);
    }

    private static boolean isSheet(int s) {
        return isIn(s, 0, MOST_SHEETS - 1);
    }

    private static boolean mayBeRota(int what, int v) {
        return isIn(what, 0, ROTAS - 1) && isIn(v, LEAST_OF_ROTA[what], MOST_OF_ROTA[what]);
    }

    private static boolean isUnder(int kind, int asked) {
        int k = kind;
        for (int step = 0; step < KINDS && isKind(k); step++) {
            if (k == asked) {
                return true;
            }
            k = ABOVE[k];
        }
        return false;
    }

    private static int quarterOf(int t, int by) {
        return by < 1 ? 0 : t / by % SIDES;
    }

    private static int restOf(int t, int by) {
        return by < 1 ? 0 : t % by;
    }

    private static int tires(int kind) {
        switch (kind) {
            case THIN:
            case TAPESTRY:
                return 2;
            case STONE:
                return 0;
            default:
                return 1;
        }
    }

    /** What a word becomes for a wall, or -1 if it hears nothing of it. */
    private static int becomes(int[] w, int word) {
        switch (w[OF_KIND]) {
            case PAPERED:
                return word ^ 1;
            case STONE:
                return word < LOUD_FOR_STONE ? -1 : word;
            case TAPESTRY:
                return w[OF_TIRED] == 0 ? word : word ^ 1;
            default:
                return word;
        }
    }

    /** All that section 1 of the document tells, but for the tape. */
    private static final class Palace {
        int minute = 0;
        final int[] rotas = {15, 2, 0, 5};
        int count = 0;
        final int[][] walls = new int[MOST_WALLS][PARTS];
        /** Which words of the latest utterAll() nobody heard. */
        int unheardWords = 0;

        void become(Palace other) {
            minute = other.minute;
            System.arraycopy(other.rotas, 0, rotas, 0, ROTAS);
            count = other.count;
            for (int i = 0; i < count; i++) {
                System.arraycopy(other.walls[i], 0, walls[i], 0, PARTS);
            }
        }

        boolean isBuiltUp() {
            return count >= MOST_WALLS;
        }

        /** A new wall's number; there must be room for it. */
        int build(int kind, int room, int other, int side) {
            int[] w = walls[count];
            w[OF_KIND] = kind;
            w[OF_ROOM] = room;
            w[OF_OTHER] = other;
            w[OF_SIDE] = side;
            w[OF_FILE] = 0;
            w[OF_TIRED] = 0;
            return count++;
        }

        int replace(int wall, int part, int v) {
            int was = walls[wall][part];
            walls[wall][part] = v;
            return was;
        }

        boolean isAwake(int[] w) {
            return w[OF_TIRED] < rotas[COURAGE];
        }

        boolean listens(int kind, int side, int quarter, int rest) {
            boolean settled = rest >= rotas[CHANGE];
            boolean own = quarter == side && settled;
            boolean winter = rotas[SEASON] == WINTER;
            switch (kind) {
                case NORTH:
                    return own && !winter;
                case STONE:
                    return winter ? rest == 0 : own;
                case TAPESTRY:
                    return own || quarter == (side + 1) % SIDES && settled;
                default:
                    return own;
            }
        }

        boolean dutyOf(int wall, int t) {
            return (onDuty(t, rotas[SHIFT]) >> wall & 1) == 1;
        }

        /** The set on duty in a minute, were the shift as long as told. */
        int onDuty(int t, int by) {
            int quarter = quarterOf(t, by);
            int rest = restOf(t, by);
            int set = 0;
            for (int i = 0; i < count; i++) {
                if (listens(walls[i][OF_KIND], walls[i][OF_SIDE], quarter, rest)) {
                    set |= 1 << i;
                }
            }
            return set;
        }

        /** In how many of the n minutes from now on none of the walls near would be on duty. */
        int silentMinutes(int near, int n, int by) {
            int minutes = 0;
            for (int i = 0; i < n; i++) {
                minutes += (onDuty(minute + i, by) & near) == 0 ? 1 : 0;
            }
            return minutes;
        }

        /** The rooms to which a word comes that is said in a room. */
        int leaks(int room) {
            int reach = 1 << room;
            // Each round that changes anything adds a room, so as many rounds as rooms are enough.
            for (int round = 0; round < ROOMS; round++) {
                for (int i = 0; i < count; i++) {
                    int both = roomsOf(walls[i]);
                    if (walls[i][OF_KIND] == THIN && (both & reach) != 0) {
                        reach |= both;
                    }
                }
            }
            return reach;
        }

        /** The walls that have a room to which a word comes that is said in a room. */
        int near(int room) {
            int reach = leaks(room);
            int set = 0;
            for (int i = 0; i < count; i++) {
                if ((roomsOf(walls[i]) & reach) != 0) {
                    set |= 1 << i;
                }
            }
            return set;
        }

        int roomsOf(int[] w) {
            return 1 << w[OF_ROOM] | 1 << w[OF_OTHER];
        }

        /** A word is said where these walls are near: which of them heard it. */
        int utter(int near, int word) {
            int listening = near & onDuty(minute, rotas[SHIFT]);
            int heard = 0;
            for (int i = 0; i < count; i++) {
                int[] w = walls[i];
                int becomes = becomes(w, word);
                if ((listening >> i & 1) == 1 && isAwake(w) && becomes >= 0) {
                    w[OF_FILE] |= 1 << becomes;
                    w[OF_TIRED] = Math.min(MOST_TIRED, w[OF_TIRED] + tires(w[OF_KIND]));
                    heard |= 1 << i;
                }
            }
            return heard;
        }

        /** Words are said in a room, each in a minute of its own: how many hearings there were. */
        int utterAll(int room, int words) {
            int near = near(room);
            int hearings = 0;
            unheardWords = 0;
            for (int word = 0; word < WORDS; word++) {
                if ((words >> word & 1) == 1) {
                    int heard = utter(near, word);
                    hearings += Integer.bitCount(heard);
                    unheardWords |= heard == 0 ? 1 << word : 0;
                    goOn();
                }
            }
            return hearings;
        }

        void goOn() {
            minute++;
            int by = rotas[SHIFT];
            if (restOf(minute, by) != 0) {
                return;
            }
            for (int i = 0; i < count; i++) {
                if (walls[i][OF_SIDE] == quarterOf(minute, by)) {
                    walls[i][OF_TIRED] = 0;
                }
            }
        }

        int wordsInFiles() {
            int words = 0;
            for (int i = 0; i < count; i++) {
                words |= walls[i][OF_FILE];
            }
            return words;
        }

        int wordsCountedEach() {
            int words = 0;
            for (int i = 0; i < count; i++) {
                words += Integer.bitCount(walls[i][OF_FILE]);
            }
            return words;
        }

        int filesWith(int word) {
            int files = 0;
            for (int i = 0; i < count; i++) {
                files += walls[i][OF_FILE] >> word & 1;
            }
            return files;
        }

        int tiredTogether() {
            int tired = 0;
            for (int i = 0; i < count; i++) {
                tired += walls[i][OF_TIRED];
            }
            return tired;
        }

        int howManyAwake() {
            int awake = 0;
            for (int i = 0; i < count; i++) {
                awake += isAwake(walls[i]) ? 1 : 0;
            }
            return awake;
        }
    }

    /** The bytes of a text, and the token at hand while it is told. */
    private static final class Tape {
        private static final int TOO_EARLY = 0;
        private static final int NO_TOKEN = 1;
        private static final int LETTERS = 2;
        private static final int NUMBER = 3;
        private static final int SIGN = 4;
        private static final int MOST_NUMBER = 999;

        final int[] bytes = new int[MOST_BYTES];
        int size = 0;
        int begin = 0;
        int end = 0;
        int sort = TOO_EARLY;
        int number = 0;

        void append(int b) {
            if (size < MOST_BYTES) {
                bytes[size] = b;
                size++;
            }
        }

        int clear() {
            int had = size;
            size = 0;
            return had;
        }

        /** The text's items come to a palace: how many, or -1 less the place of the fault. */
        int tell(Palace p) {
            end = 0;
            next();
            for (int items = 1; items <= MOST_BYTES; items++) {
                if (!takesItem(p)) {
                    return -1 - begin;
                }
                if (sort == TOO_EARLY) {
                    return items;
                }
                if (sort != SIGN) {
                    return -1 - begin;
                }
                next();
            }
            return -1 - begin;
        }

        /** Takes an item and stands behind it; if it can't, stands on the token that is wrong. */
        boolean takesItem(Palace p) {
            int kind = kindNamed();
            if (kind >= 0) {
                return takesWall(p, kind);
            }
            int what = rotaNamed();
            if (what < 0) {
                return false;
            }
            next();
            if (!isNumber(LEAST_OF_ROTA[what], MOST_OF_ROTA[what])) {
                return false;
            }
            p.rotas[what] = number;
            next();
            return true;
        }

        boolean takesWall(Palace p, int kind) {
            if (p.isBuiltUp()) {
                return false;
            }
            next();
            if (!isNamed("of")) {
                return false;
            }
            next();
            if (!isNumber(0, ROOMS - 1)) {
                return false;
            }
            int room = number;
            next();
            int other = room;
            if (isNamed("and")) {
                next();
                if (!isNumber(0, ROOMS - 1)) {
                    return false;
                }
                other = number;
                next();
            }
            int side = 0;
            if (isNamed("side")) {
                next();
                if (!isNumber(0, SIDES - 1)) {
                    return false;
                }
                side = number;
                next();
            }
            p.build(kind, room, other, side);
            return true;
        }

        int kindNamed() {
            for (int kind = 0; kind < KINDS; kind++) {
                if (isNamed(nameOfKind(kind))) {
                    return kind;
                }
            }
            return -1;
        }

        /** The number of the rota whose name is at hand (courage has none), or -1. */
        int rotaNamed() {
            if (isNamed("shift")) {
                return SHIFT;
            }
            if (isNamed("change")) {
                return CHANGE;
            }
            return isNamed("season") ? SEASON : -1;
        }

        String nameOfKind(int kind) {
            switch (kind) {
                case NORTH:
                    return "north";
                case PAPERED:
                    return "papered";
                case THIN:
                    return "thin";
                case STONE:
                    return "stone";
                case TAPESTRY:
                    return "tapestry";
                default:
                    return "wall";
            }
        }

        boolean isNamed(String name) {
            if (sort != LETTERS || end - begin != name.length()) {
                return false;
            }
            for (int i = 0; i < name.length(); i++) {
                if (byteAt(begin + i) != name.charAt(i)) {
                    return false;
                }
            }
            return true;
        }

        boolean isNumber(int least, int most) {
            return sort == NUMBER && isIn(number, least, most);
        }

        /** The next token, as long as can be, becomes the one at hand. */
        void next() {
            begin = end;
            while (begin < size && byteAt(begin) == ' ') {
                begin++;
            }
            end = begin;
            sort = sortOf(byteAt(begin));
            if (sort == LETTERS || sort == NUMBER) {
                while (end < size && sortOf(byteAt(end)) == sort) {
                    end++;
                }
            } else if (sort == SIGN) {
                end++;
            }
            number = sort == NUMBER ? numberAtHand() : 0;
        }

        int sortOf(int b) {
            if (b < 0) {
                return TOO_EARLY;
            }
            if (b == ';') {
                return SIGN;
            }
            if (b >= 'a' && b <= 'z') {
                return LETTERS;
            }
            return b >= '0' && b <= '9' ? NUMBER : NO_TOKEN;
        }

        /** A byte, or -1 behind the last. */
        int byteAt(int i) {
            return i >= 0 && i < size ? bytes[i] : -1;
        }

        int numberAtHand() {
            int value = 0;
            for (int i = begin; i < end; i++) {
                // However many digits there are, one above the most stays one above the most.
                value = Math.min(MOST_NUMBER + 1, value * 10 + byteAt(i) - '0');
            }
            return value;
        }
    }

    /** A row of numbers, or, as long as they have no bits, none. */
    private static final class Sheet {
        int bits = 0;
        int size = 0;
        final long[] numbers = new long[MOST_NUMBERS];

        boolean isMissing() {
            return bits == 0;
        }

        int renew(int newBits, int n) {
            bits = newBits;
            size = newBits == 0 ? 0 : n;
            Arrays.fill(numbers, 0L);
            return size;
        }

        /** Keeps the lowest bits of v, the highest of them being its sign as in Java's byte and short. */
        void put(int i, long v) {
            if (bits == 8) {
                numbers[i] = (byte) v;
            } else {
                numbers[i] = bits == 16 ? (short) v : v;
            }
        }

        boolean hasPart(int from, int n) {
            return from >= 0 && n >= 0 && from <= size - n;
        }
    }
}
