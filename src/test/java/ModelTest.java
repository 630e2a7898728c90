import java.lang.reflect.InvocationTargetException;
import java.lang.reflect.Method;
import java.util.ArrayList;
import java.util.List;
import java.util.Random;

/**
 * All promises: long runs of calls, right and wrong ones, each answered by the class as by Model.
 * A finding that changed something would show in the calls behind it. Seeds are written out, so
 * that a run can be told again.
 */
public final class ModelTest {
    private static final int CALLS = 512;
    private static final int RUNS = 200;
    private static final int LATE_RUNS = 12;
    /** Each call, how often it comes, and the least and the greatest that each argument may well be. */
    private static final String[] CALLS_TOLD = {
        "rota 3 0 3 0 20", "rota 1 0 1 0 60", "rota 1 2 2 3 3", "wall 3 0 5 0 9 0 9", "wall 4 0 5 0 3 0 3",
        "of 4 0 9 0 8", "set 3 0 9 1 5 0 9", "set 3 0 9 3 3 0 3", "set 1 0 9 4 4 0 65535", "set 2 0 9 5 5 0 99",
        "turn 2 0 9 0 5", "as 2 0 9 0 5", "hears 3 0 9 0 15", "say 8 0 4 0 15", "pass 4 1 20", "pass 1 1 240",
        "speak 3 0 4 0 65535", "reach 2 0 9", "duty 3 0 99999", "duty 2 0 240", "now 6 0 6", "filed 2 0 15",
        "safe 3 0 4 1 30", "safe 2 0 4 1 3", "where 1 1 30", "where 1 1 3", "quiet 2 0 4 1 240",
        "worst 3 0 4 1 240", "cover 2 0 4 1 60", "cover 2 0 4 1 20", "shift 1 0 4 1 60", "side 2 0 9 0 4 1 240",
        "lost 3 0 4 0 65535", "best 2 0 65535", "feed 1 0 0 1 4", "wipe 1", "palace 1", "text 4",
        "sheet 3 0 3 8 8 0 40", "sheet 2 0 3 16 16 0 40", "sheet 2 0 3 64 64 0 40", "sheet 1 0 3 0 64 0 40",
        "write 4 0 3 0 20 0 1", "write 2 0 3 0 9 0 65535", "copy 3 0 3 0 20 0 3 0 20 0 20", "lays 2 0 3",
        "book 3 0 3 0 9", "read 4 0 3 0 9", "image 1", "undo 1", "tear 1", "count 3 0 3", "status 3 -1 6"};
    private static final String[] WORDS = {"wall", "north", "papered", "thin", "stone", "tapestry", "of", "and",
        "side", "shift", "change", "season", ";", "x", "4", "9", "10", "0", "61", "1000", "-", " ", "\n"};

    private final WallShifts asked = new WallShifts();
    private final Model model = new Model();
    private final Random random;
    private final StringBuilder told = new StringBuilder();

    private ModelTest(int seed) {
        random = new Random(seed);
    }

    public static void main(String[] args) throws Exception {
        for (int seed = 0; seed < RUNS; seed++) {
            new ModelTest(seed).run(0);
        }
        for (int seed = RUNS; seed < RUNS + LATE_RUNS; seed++) {
            // 416 times 240 minutes are 99840; the rest of the calls comes about the last minute.
            new ModelTest(seed).run(416);
        }
        Due.end("ModelTest");
    }

    private void run(int late) throws Exception {
        int calls = 0;
        for (; calls < late; calls++) {
            due("pass", 240);
        }
        List<String> often = new ArrayList<>();
        for (String call : CALLS_TOLD) {
            for (int i = Integer.parseInt(call.split(" ")[1]); i > 0; i--) {
                often.add(call);
            }
        }
        while (calls < CALLS) {
            String[] call = often.get(random.nextInt(often.size())).split(" ");
            if (call[0].equals("text")) {
                calls += text(CALLS - calls);
            } else {
                due(call[0], arguments(call));
                calls++;
            }
        }
    }

    private long[] arguments(String[] call) {
        long[] arguments = new long[(call.length - 2) / 2];
        for (int i = 0; i < arguments.length; i++) {
            arguments[i] = argument(Long.parseLong(call[2 + 2 * i]), Long.parseLong(call[3 + 2 * i]));
        }
        return arguments;
    }

    private long argument(long least, long most) {
        int sort = random.nextInt(100);
        if (sort < 91) {
            return least + random.nextInt((int) (most - least) + 1);
        }
        long[] edges = {least, most, least - 1, most + 1, -1, 0, Integer.MIN_VALUE, Integer.MAX_VALUE,
            random.nextInt()};
        return edges[random.nextInt(edges.length)];
    }

    /** Feeds a text, mostly a right one, and lets it be told. */
    private int text(int calls) throws Exception {
        StringBuilder text = new StringBuilder();
        int items = 1 + random.nextInt(4);
        for (int i = 0; i < items; i++) {
            text.append(i == 0 ? "" : ";").append(item());
        }
        if (random.nextInt(3) == 0) {
            int from = random.nextInt(text.length() + 1);
            int to = Math.min(text.length(), from + random.nextInt(4));
            text.replace(from, to, WORDS[random.nextInt(WORDS.length)]);
        }
        int fed = 0;
        for (int at = 0; at < text.length() && fed < calls - 1; fed++) {
            int n = Math.min(text.length() - at, 1 + random.nextInt(4));
            int bytes = random.nextInt() << 8 * n - 1 << 1;
            for (int i = 0; i < n; i++) {
                bytes |= text.charAt(at + i) << 8 * (n - 1 - i);
            }
            due("feed", n == 4 ? bytes(text, at) : bytes, n);
            at += n;
        }
        due("palace");
        return fed + 1;
    }

    private static int bytes(CharSequence text, int at) {
        return text.charAt(at) << 24 | text.charAt(at + 1) << 16 | text.charAt(at + 2) << 8 | text.charAt(at + 3);
    }

    private String item() {
        int sort = random.nextInt(6);
        if (sort == 0) {
            return "shift " + random.nextInt(61);
        }
        if (sort == 1) {
            return " change " + random.nextInt(5) + " ";
        }
        if (sort == 2) {
            return "season" + random.nextInt(4);
        }
        return WORDS[random.nextInt(6)] + " of " + random.nextInt(5)
                + (random.nextBoolean() ? " and " + random.nextInt(5) : "")
                + (random.nextBoolean() ? " side " + random.nextInt(4) : "");
    }

    private void due(String name, long... arguments) throws Exception {
        told.append(name).append(java.util.Arrays.toString(arguments)).append(' ');
        long want = call(model, name, arguments);
        long got = call(asked, name, arguments);
        Due.due(want == got ? name : "run: " + told, got, want);
    }

    private static long call(Object on, String name, long[] arguments) throws Exception {
        for (Method method : on.getClass().getDeclaredMethods()) {
            if (method.getName().equals(name) && java.lang.reflect.Modifier.isPublic(method.getModifiers())) {
                Object[] given = new Object[arguments.length];
                for (int i = 0; i < given.length; i++) {
                    boolean isLong = method.getParameterTypes()[i] == long.class;
                    given[i] = isLong ? (Object) arguments[i] : (Object) (int) arguments[i];
                }
                try {
                    return ((Number) method.invoke(on, given)).longValue();
                } catch (InvocationTargetException e) {
                    throw new IllegalStateException(name + " threw", e.getCause());
                }
            }
        }
        throw new IllegalStateException("no " + name);
    }
}
