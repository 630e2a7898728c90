import java.io.IOException;
import java.lang.reflect.InvocationTargetException;
import java.lang.reflect.Method;
import java.nio.file.Files;
import java.nio.file.Path;
import java.util.Arrays;
import java.util.BitSet;
import java.util.Comparator;
import java.util.Map;
import java.util.TreeMap;
import java.util.regex.Matcher;
import java.util.regex.Pattern;

/**
 * Runs the tests that tell by {@link Says} which words of the document they ask, each by itself.
 * Fails, too, if words are quoted that the document hasn't, if a test asks nothing, or if there are
 * words of the Terms or of a promise that no test quotes.
 */
public final class SentencesTest {
    private static final Class<?>[] TESTS = {TermsSays.class, TextSays.class, PalaceSays.class, SaidSays.class,
        UnheardSays.class, SheetsSays.class, ImagesSays.class};
    private static final int PROMISES = 38;
    /** What says nothing by itself: lines that only caption the interface, and the sections' numbers. */
    private static final String CAPTIONS = "(?m)^Ahead of the calls .*$|^\\d\\. ";

    private final Map<Integer, String> sections = new TreeMap<>();
    private final Map<Integer, BitSet> quoted = new TreeMap<>();
    private int tests = 0;

    public static void main(String[] args) throws Exception {
        SentencesTest all = new SentencesTest();
        all.readDocument();
        for (Class<?> one : TESTS) {
            all.run(one);
        }
        Due.under("");
        all.askWhatIsLeft();
        System.out.println("SentencesTest: " + all.tests + " tests");
        Due.end("SentencesTest");
    }

    private void readDocument() throws IOException {
        String document = Files.readString(Path.of("../shared/DOC.md"));
        for (String section : document.split("(?m)^## ")) {
            String[] parts = section.split("\n", 2);
            Matcher promise = Pattern.compile("Promise (\\d+): .*").matcher(parts[0]);
            if (parts[0].equals("What it is")) {
                keep(Says.WHAT, parts[1]);
            } else if (parts[0].equals("Terms")) {
                keep(Says.TERMS, parts[1].replaceAll(CAPTIONS, ""));
            } else if (promise.matches()) {
                keep(Integer.parseInt(promise.group(1)), parts[1].strip().replaceFirst("^`[^`]*`: ", ""));
            }
        }
        Due.due("sections of the document", sections.size(), PROMISES + 2);
    }

    private void keep(int section, String body) {
        sections.put(section, oneLine(body.replaceAll("```(text)?", " ")));
        quoted.put(section, new BitSet());
    }

    private static String oneLine(String text) {
        return text.replaceAll("\\s+", " ").strip();
    }

    private void run(Class<?> of) throws Exception {
        Method[] methods = of.getDeclaredMethods();
        Arrays.sort(methods, Comparator.comparing(Method::getName));
        for (Method one : methods) {
            Says says = one.getAnnotation(Says.class);
            if (says != null) {
                Due.under(of.getName() + "." + one.getName() + " (" + says.in() + "), ");
                quote(says);
                ask(one);
            }
        }
    }

    private void ask(Method test) throws Exception {
        int before = Due.asked();
        test.setAccessible(true);
        try {
            test.invoke(null);
        } catch (InvocationTargetException e) {
            throw new IllegalStateException(test.getName() + " threw", e.getCause());
        }
        Due.due("it asks something", Due.asked() > before ? 1 : 0, 1);
        tests++;
    }

    private void quote(Says says) {
        String section = sections.getOrDefault(says.in(), "");
        for (String words : says.value()) {
            int at = section.indexOf(words);
            Due.due("the document says: " + words, at < 0 || words.isEmpty() ? 0 : 1, 1);
            for (; at >= 0 && !words.isEmpty(); at = section.indexOf(words, at + 1)) {
                quoted.get(says.in()).set(at, at + words.length());
            }
        }
    }

    private void askWhatIsLeft() {
        for (int section = Says.TERMS; section <= PROMISES; section++) {
            String words = sections.getOrDefault(section, "");
            StringBuilder left = new StringBuilder();
            for (int i = 0; i < words.length(); i++) {
                left.append(quoted.get(section).get(i) ? ' ' : words.charAt(i));
            }
            String unasked = oneLine(left.toString().replaceAll("[^A-Za-z0-9]", " "));
            Due.due("words that no test quotes in " + section + ": " + unasked, unasked.length(), 0);
        }
    }
}
