import java.util.ArrayList;
import java.util.Arrays;
import java.util.BitSet;
import java.util.List;
import java.util.TreeSet;
import java.util.regex.Matcher;
import java.util.regex.Pattern;

/**
 * The document read a second time, word by word and without any haste, for ModelTest to compare
 * with. It shares no code with the class, and tries out what the class reckons.
 */
public final class Model {
    static final int BEYOND = -1000000001;
    static final int FULL = -1000000002;
    static final int KIND = -1000000003;
    static final int NONE = -1000000004;
    static final int STATE = -1000000005;
    static final int MISSING = -1000000006;
    static final int SIZE = -1000000007;

    static class Rota {
        int minute = 0;
        int shift = 15;
        int change = 2;
        int season = 0;
        int courage = 5;

        int quarter(int t) {
            return t / shift % 4;
        }

        boolean isSettled(int t) {
            return t % shift >= change;
        }
    }

    static class Plain {
        int kind() {
            return 0;
        }

        boolean onDuty(Rota r, int side, int t) {
            return r.quarter(t) == side && r.isSettled(t);
        }

        int hears(int word, int tired) {
            return word;
        }

        int tires() {
            return 1;
        }
    }

    static class North extends Plain {
        @Override
        int kind() {
            return 1;
        }

        @Override
        boolean onDuty(Rota r, int side, int t) {
            return r.season != 3 && super.onDuty(r, side, t);
        }
    }

    static class Papered extends Plain {
        @Override
        int kind() {
            return 2;
        }

        @Override
        int hears(int word, int tired) {
            return word % 2 == 0 ? word + 1 : word - 1;
        }
    }

    static class Thin extends Plain {
        @Override
        int kind() {
            return 3;
        }

        @Override
        int tires() {
            return 2 * super.tires();
        }
    }

    static class Stone extends North {
        @Override
        int kind() {
            return 4;
        }

        @Override
        boolean onDuty(Rota r, int side, int t) {
            return super.onDuty(r, side, t) || r.season == 3 && t % r.shift == 0;
        }

        @Override
        int hears(int word, int tired) {
            return word < 4 ? -1 : super.hears(word, tired);
        }

        @Override
        int tires() {
            return super.tires() / 2;
        }
    }

    static class Tapestry extends Papered {
        @Override
        int kind() {
            return 5;
        }

        @Override
        boolean onDuty(Rota r, int side, int t) {
            int next = side == 3 ? 0 : side + 1;
            return super.onDuty(r, side, t) || r.quarter(t) == next && r.isSettled(t);
        }

        @Override
        int hears(int word, int tired) {
            return tired == 0 ? word : super.hears(word, tired);
        }

        @Override
        int tires() {
            return super.tires() + 1;
        }
    }

    static final List<Plain> KINDS =
            List.of(new Plain(), new North(), new Papered(), new Thin(), new Stone(), new Tapestry());
    static final List<String> NAMES = List.of("wall", "north", "papered", "thin", "stone", "tapestry");

    static class One {
        Plain kind;
        int room;
        int other;
        int side = 0;
        TreeSet<Integer> file = new TreeSet<>();
        int tired = 0;

        One(int kind, int room, int other) {
            this.kind = KINDS.get(kind);
            this.room = room;
            this.other = other;
        }

        One twin() {
            One twin = new One(kind.kind(), room, other);
            twin.side = side;
            twin.file.addAll(file);
            twin.tired = tired;
            return twin;
        }
    }

    static class State {
        Rota rota = new Rota();
        List<One> walls = new ArrayList<>();

        State twin() {
            State twin = new State();
            twin.rota.minute = rota.minute;
            twin.rota.shift = rota.shift;
            twin.rota.change = rota.change;
            twin.rota.season = rota.season;
            twin.rota.courage = rota.courage;
            for (One one : walls) {
                twin.walls.add(one.twin());
            }
            return twin;
        }

        TreeSet<Integer> reach(int room) {
            TreeSet<Integer> rooms = new TreeSet<>();
            List<Integer> open = new ArrayList<>(List.of(room));
            while (!open.isEmpty()) {
                int here = open.remove(open.size() - 1);
                if (!rooms.add(here)) {
                    continue;
                }
                for (One one : walls) {
                    if (one.kind instanceof Thin && one.room == here) {
                        open.add(one.other);
                    }
                    if (one.kind instanceof Thin && one.other == here) {
                        open.add(one.room);
                    }
                }
            }
            return rooms;
        }

        boolean onDuty(int wall, int t) {
            One one = walls.get(wall);
            return one.kind.onDuty(rota, one.side, t);
        }

        boolean near(int wall, int room) {
            TreeSet<Integer> rooms = reach(room);
            return rooms.contains(walls.get(wall).room) || rooms.contains(walls.get(wall).other);
        }

        /** Whether a room is unheard in a minute by those walls of which a set tells. */
        boolean unheard(int room, int t, int those) {
            for (int i = 0; i < walls.size(); i++) {
                if ((those & 1 << i) != 0 && onDuty(i, t) && near(i, room)) {
                    return false;
                }
            }
            return true;
        }

        int quiet(int room, int n, int those) {
            int quiet = 0;
            for (int t = rota.minute; t < rota.minute + n; t++) {
                quiet += unheard(room, t, those) ? 1 : 0;
            }
            return quiet;
        }

        int say(int room, int word) {
            int set = 0;
            for (int i = 0; i < walls.size(); i++) {
                One one = walls.get(i);
                int becomes = one.kind.hears(word, one.tired);
                if (near(i, room) && onDuty(i, rota.minute) && one.tired < rota.courage && becomes != -1) {
                    one.file.add(becomes);
                    one.tired = Math.min(99, one.tired + one.kind.tires());
                    set += 1 << i;
                }
            }
            return set;
        }

        void go() {
            rota.minute++;
            for (One one : walls) {
                if (rota.minute % rota.shift == 0 && one.side == rota.quarter(rota.minute)) {
                    one.tired = 0;
                }
            }
        }

        /** The sets that heard the words of a set, in the words' order. */
        List<Integer> speak(int room, int words) {
            List<Integer> heard = new ArrayList<>();
            for (int word = 0; word < 16; word++) {
                if ((words & 1 << word) != 0) {
                    heard.add(say(room, word));
                    go();
                }
            }
            return heard;
        }

        int hearings(int room, int words) {
            int hearings = 0;
            for (int set : speak(room, words)) {
                hearings += Integer.bitCount(set);
            }
            return hearings;
        }
    }

    private State now = new State();
    private State kept = null;
    private final StringBuilder tape = new StringBuilder();
    private final int[] bits = new int[4];
    private final long[][] numbers = new long[4][];
    private final long[] findings = new long[7];

    private int all() {
        return 1023;
    }

    private int found(int finding) {
        findings[BEYOND - finding]++;
        return finding;
    }

    private static boolean out(int v, int least, int most) {
        return v < least || v > most;
    }

    private boolean noWall(int wall) {
        return out(wall, 0, now.walls.size() - 1);
    }

    private static int bitsOf(Iterable<Integer> set) {
        int told = 0;
        for (int one : set) {
            told |= 1 << one;
        }
        return told;
    }

    public int rota(int what, int v) {
        Rota r = now.rota;
        int was;
        if (what == 0 && !out(v, 1, 60)) {
            was = r.shift;
            r.shift = v;
        } else if (what == 1 && !out(v, 0, 60)) {
            was = r.change;
            r.change = v;
        } else if (what == 2 && !out(v, 0, 3)) {
            was = r.season;
            r.season = v;
        } else if (what == 3 && !out(v, 1, 20)) {
            was = r.courage;
            r.courage = v;
        } else {
            was = found(BEYOND);
        }
        return was;
    }

    public int wall(int kind, int room, int other) {
        if (out(kind, 0, 5) || out(room, 0, 9) || out(other, 0, 9)) {
            return found(BEYOND);
        }
        if (now.walls.size() == 10) {
            return found(FULL);
        }
        now.walls.add(new One(kind, room, other));
        return now.walls.size() - 1;
    }

    public int of(int wall, int what) {
        if (noWall(wall) || out(what, 0, 8)) {
            return found(BEYOND);
        }
        One one = now.walls.get(wall);
        int[] told = {one.kind.kind(), one.room, one.other, one.side, bitsOf(one.file), one.tired,
            now.onDuty(wall, now.rota.minute) ? 1 : 0, one.tired < now.rota.courage ? 1 : 0, one.kind.tires()};
        return told[what];
    }

    public int set(int wall, int what, int v) {
        int[] most = {-1, 9, 9, 3, 65535, 99};
        if (noWall(wall) || out(what, 1, 5) || out(v, 0, most[what])) {
            return found(BEYOND);
        }
        int was = of(wall, what);
        One one = now.walls.get(wall);
        if (what == 1) {
            one.room = v;
        } else if (what == 2) {
            one.other = v;
        } else if (what == 3) {
            one.side = v;
        } else if (what == 4) {
            file(one, v);
        } else {
            one.tired = v;
        }
        return was;
    }

    private static void file(One one, int words) {
        one.file.clear();
        BitSet.valueOf(new long[] {words}).stream().forEach(one.file::add);
    }

    public int turn(int wall, int kind) {
        if (noWall(wall) || out(kind, 0, 5)) {
            return found(BEYOND);
        }
        int was = of(wall, 0);
        now.walls.get(wall).kind = KINDS.get(kind);
        return was;
    }

    public int as(int wall, int kind) {
        if (noWall(wall) || out(kind, 0, 5)) {
            return found(BEYOND);
        }
        boolean is = KINDS.get(kind).getClass().isInstance(now.walls.get(wall).kind);
        return is ? of(wall, 4) : found(KIND);
    }

    public int hears(int wall, int word) {
        if (noWall(wall) || out(word, 0, 15)) {
            return found(BEYOND);
        }
        One one = now.walls.get(wall);
        int becomes = one.kind.hears(word, one.tired);
        return becomes == -1 ? found(NONE) : becomes;
    }

    public int say(int room, int word) {
        return out(room, 0, 9) || out(word, 0, 15) ? found(BEYOND) : now.say(room, word);
    }

    public int pass(int n) {
        if (out(n, 1, 240)) {
            return found(BEYOND);
        }
        if (now.rota.minute + n > 99999) {
            return found(STATE);
        }
        for (int i = 0; i < n; i++) {
            now.go();
        }
        return now.rota.minute;
    }

    public int speak(int room, int words) {
        if (out(room, 0, 9) || out(words, 0, 65535)) {
            return found(BEYOND);
        }
        if (now.rota.minute + Integer.bitCount(words) > 99999) {
            return found(STATE);
        }
        return now.hearings(room, words);
    }

    public int reach(int room) {
        return out(room, 0, 9) ? found(BEYOND) : bitsOf(now.reach(room));
    }

    public int duty(int minute) {
        if (out(minute, 0, 99999)) {
            return found(BEYOND);
        }
        int set = 0;
        for (int i = 0; i < now.walls.size(); i++) {
            set += now.onDuty(i, minute) ? 1 << i : 0;
        }
        return set;
    }

    public int now(int what) {
        if (out(what, 0, 6)) {
            return found(BEYOND);
        }
        Rota r = now.rota;
        TreeSet<Integer> words = new TreeSet<>();
        int tired = 0;
        for (One one : now.walls) {
            words.addAll(one.file);
            tired += one.tired;
        }
        return new int[] {r.minute, r.shift, r.change, r.season, r.courage, bitsOf(words), tired}[what];
    }

    public int filed(int word) {
        return out(word, 0, 15) ? found(BEYOND)
                : (int) now.walls.stream().filter(one -> one.file.contains(word)).count();
    }

    private int begin(int room, int n) {
        for (int in = 0; in <= 240; in++) {
            boolean safe = true;
            for (int i = 0; i < n && safe; i++) {
                safe = now.unheard(room, now.rota.minute + in + i, all());
            }
            if (safe) {
                return in;
            }
        }
        return -1;
    }

    public int safe(int room, int n) {
        if (out(room, 0, 9) || out(n, 1, 30)) {
            return found(BEYOND);
        }
        int begin = begin(room, n);
        return begin == -1 ? found(NONE) : begin;
    }

    public int where(int n) {
        if (out(n, 1, 30)) {
            return found(BEYOND);
        }
        int[] begins = new int[10];
        for (int room = 0; room < 10; room++) {
            begins[room] = begin(room, n);
        }
        int soonest = Arrays.stream(begins).filter(in -> in != -1).min().orElse(-1);
        for (int room = 0; room < 10 && soonest != -1; room++) {
            if (begins[room] == soonest) {
                return room;
            }
        }
        return found(NONE);
    }

    public int quiet(int room, int n) {
        return out(room, 0, 9) || out(n, 1, 240) ? found(BEYOND) : now.quiet(room, n, all());
    }

    public int worst(int room, int n) {
        if (out(room, 0, 9) || out(n, 1, 240)) {
            return found(BEYOND);
        }
        int most = now.quiet(room, n, all());
        int worst = -1;
        for (int i = 0; i < now.walls.size(); i++) {
            int without = now.quiet(room, n, all() & ~(1 << i));
            if (without > most) {
                most = without;
                worst = i;
            }
        }
        return worst == -1 ? found(NONE) : worst;
    }

    public int cover(int room, int n) {
        if (out(room, 0, 9) || out(n, 1, 60)) {
            return found(BEYOND);
        }
        for (int many = 0; many <= now.walls.size(); many++) {
            for (int set = 0; set < 1 << now.walls.size(); set++) {
                if (Integer.bitCount(set) == many && now.quiet(room, n, set) == 0) {
                    return set;
                }
            }
        }
        return found(NONE);
    }

    public int shift(int room, int n) {
        if (out(room, 0, 9) || out(n, 1, 60)) {
            return found(BEYOND);
        }
        int[] quiet = new int[61];
        quiet[0] = Integer.MAX_VALUE;
        for (int shift = 1; shift <= 60; shift++) {
            State with = now.twin();
            with.rota.shift = shift;
            quiet[shift] = with.quiet(room, n, all());
        }
        return leastOf(quiet);
    }

    public int side(int wall, int room, int n) {
        if (noWall(wall) || out(room, 0, 9) || out(n, 1, 240)) {
            return found(BEYOND);
        }
        int[] quiet = new int[4];
        for (int side = 0; side < 4; side++) {
            State with = now.twin();
            with.walls.get(wall).side = side;
            quiet[side] = with.quiet(room, n, all());
        }
        return leastOf(quiet);
    }

    private static int leastOf(int[] row) {
        int least = Arrays.stream(row).min().getAsInt();
        for (int i = 0; i < row.length; i++) {
            if (row[i] == least) {
                return i;
            }
        }
        return -1;
    }

    public int lost(int room, int words) {
        if (out(room, 0, 9) || out(words, 0, 65535)) {
            return found(BEYOND);
        }
        List<Integer> heard = now.twin().speak(room, words);
        int lost = 0;
        for (int word = 0; word < 16; word++) {
            if ((words & 1 << word) != 0 && heard.remove(0) == 0) {
                lost |= 1 << word;
            }
        }
        return lost;
    }

    public int best(int words) {
        if (out(words, 0, 65535)) {
            return found(BEYOND);
        }
        int[] hearings = new int[10];
        for (int room = 0; room < 10; room++) {
            hearings[room] = now.twin().hearings(room, words);
        }
        return leastOf(hearings);
    }

    public int feed(int bytes, int n) {
        if (out(n, 1, 4)) {
            return found(BEYOND);
        }
        if (tape.length() + n > 120) {
            return found(FULL);
        }
        for (int i = 4 - n; i < 4; i++) {
            tape.append((char) ((bytes >>> 24 - 8 * i) & 255));
        }
        return tape.length();
    }

    public int wipe() {
        int had = tape.length();
        tape.setLength(0);
        return had;
    }

    static class Fault extends Exception {
        private static final long serialVersionUID = 1L;
        final int place;

        Fault(int place) {
            this.place = place;
        }
    }

    /** A text's tokens and their places; behind them an empty one. */
    static class Tokens {
        private static final Pattern TOKEN = Pattern.compile("[a-z]+|[0-9]+|;|[^ ]");
        final List<String> texts = new ArrayList<>();
        final List<Integer> places = new ArrayList<>();
        int at = 0;

        Tokens(String text) {
            Matcher m = Pattern.compile(TOKEN.pattern(), Pattern.DOTALL).matcher(text);
            while (m.find()) {
                texts.add(m.group());
                places.add(m.start());
            }
            texts.add("");
            places.add(text.length());
        }

        boolean is(String text) {
            return texts.get(at).equals(text);
        }

        void take(String text) throws Fault {
            if (!is(text)) {
                throw fault();
            }
            at++;
        }

        int number(int least, int most) throws Fault {
            String digits = texts.get(at).replaceFirst("^0+(?=[0-9])", "");
            if (!digits.matches("[0-9]{1,3}") || out(Integer.parseInt(digits), least, most)) {
                throw fault();
            }
            at++;
            return Integer.parseInt(digits);
        }

        Fault fault() {
            return new Fault(places.get(at));
        }
    }

    public int palace() {
        Tokens tokens = new Tokens(tape.toString());
        tape.setLength(0);
        State with = now.twin();
        try {
            int items = 1;
            item(tokens, with);
            while (!tokens.is("")) {
                tokens.take(";");
                item(tokens, with);
                items++;
            }
            now = with;
            return items;
        } catch (Fault fault) {
            return -1 - fault.place;
        }
    }

    private static void item(Tokens tokens, State with) throws Fault {
        String name = tokens.texts.get(tokens.at);
        if (NAMES.contains(name) && with.walls.size() < 10) {
            tokens.take(name);
            tokens.take("of");
            int room = tokens.number(0, 9);
            One one = new One(NAMES.indexOf(name), room, room);
            if (tokens.is("and")) {
                tokens.take("and");
                one.other = tokens.number(0, 9);
            }
            if (tokens.is("side")) {
                tokens.take("side");
                one.side = tokens.number(0, 3);
            }
            with.walls.add(one);
        } else if (name.equals("shift")) {
            tokens.take(name);
            with.rota.shift = tokens.number(1, 60);
        } else if (name.equals("change")) {
            tokens.take(name);
            with.rota.change = tokens.number(0, 60);
        } else if (name.equals("season")) {
            tokens.take(name);
            with.rota.season = tokens.number(0, 3);
        } else {
            throw tokens.fault();
        }
    }

    public int sheet(int s, int ofBits, int n) {
        if (out(s, 0, 3) || !List.of(0, 8, 16, 64).contains(ofBits)) {
            return found(BEYOND);
        }
        if (n < 0) {
            return found(SIZE);
        }
        if (n > 40) {
            return found(BEYOND);
        }
        bits[s] = ofBits;
        numbers[s] = ofBits == 0 ? null : new long[n];
        return ofBits == 0 ? 0 : n;
    }

    public long write(int s, int i, long v) {
        if (out(s, 0, 3)) {
            return found(BEYOND);
        }
        if (numbers[s] == null) {
            return found(MISSING);
        }
        if (out(i, 0, numbers[s].length - 1)) {
            return found(BEYOND);
        }
        long was = numbers[s][i];
        numbers[s][i] = v << 64 - bits[s] >> 64 - bits[s];
        return was;
    }

    public int copy(int s, int from, int t, int to, int n) {
        if (out(s, 0, 3) || out(t, 0, 3)) {
            return found(BEYOND);
        }
        if (numbers[s] == null || numbers[t] == null) {
            return found(MISSING);
        }
        if (bits[s] != bits[t]) {
            return found(KIND);
        }
        if (from < 0 || to < 0 || n < 0 || (long) from + n > numbers[s].length
                || (long) to + n > numbers[t].length) {
            return found(BEYOND);
        }
        long[] were = numbers[s].clone();
        for (int i = 0; i < n; i++) {
            numbers[t][to + i] = were[from + i];
        }
        return n;
    }

    public int lays(int s) {
        if (out(s, 0, 3)) {
            return found(BEYOND);
        }
        if (numbers[s] == null) {
            return found(MISSING);
        }
        int came = 0;
        for (int i = 0; i < numbers[s].length; i++) {
            if (i < now.walls.size() && numbers[s][i] >= 0 && numbers[s][i] <= 65535) {
                file(now.walls.get(i), (int) numbers[s][i]);
                came++;
            }
        }
        return came;
    }

    public int book(int s, int wall) {
        if (out(s, 0, 3)) {
            return found(BEYOND);
        }
        if (numbers[s] == null) {
            return found(MISSING);
        }
        if (noWall(wall)) {
            return found(BEYOND);
        }
        for (int i = 0; i < numbers[s].length; i++) {
            numbers[s][i] = now.onDuty(wall, now.rota.minute + i) ? 1 : 0;
        }
        return numbers[s].length;
    }

    public int read(int s, int wall) {
        if (out(s, 0, 3)) {
            return found(BEYOND);
        }
        if (numbers[s] == null) {
            return found(MISSING);
        }
        if (noWall(wall)) {
            return found(BEYOND);
        }
        int pairs = 0;
        for (int pair = 0; pair < 24; pair++) {
            State with = now.twin();
            with.walls.get(wall).kind = KINDS.get(pair / 4);
            with.walls.get(wall).side = pair % 4;
            boolean so = true;
            for (int i = 0; i < numbers[s].length; i++) {
                so &= numbers[s][i] == (with.onDuty(wall, now.rota.minute + i) ? 1 : 0);
            }
            pairs += so ? 1 : 0;
        }
        return pairs;
    }

    public int image() {
        kept = now.twin();
        return 1;
    }

    public int undo() {
        if (kept == null) {
            return found(NONE);
        }
        now = kept.twin();
        return now.walls.size();
    }

    public int tear() {
        int had = kept == null ? 0 : 1;
        kept = null;
        return had;
    }

    public int count(int what) {
        if (out(what, 0, 3)) {
            return found(BEYOND);
        }
        int words = 0;
        int awake = 0;
        for (One one : now.walls) {
            words += one.file.size();
            awake += one.tired < now.rota.courage ? 1 : 0;
        }
        return new int[] {now.walls.size(), tape.length(), words, awake}[what];
    }

    public int status(int which) {
        if (which == -1) {
            return (int) Arrays.stream(findings).sum();
        }
        return out(which, 0, 6) ? found(BEYOND) : (int) findings[which];
    }
}
