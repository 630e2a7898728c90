import java.lang.reflect.Constructor;
import java.lang.reflect.Field;
import java.lang.reflect.Method;
import java.lang.reflect.Modifier;
import java.nio.file.Files;
import java.nio.file.Path;
import java.util.Set;
import java.util.TreeSet;
import java.util.regex.Matcher;
import java.util.regex.Pattern;

/** The face of the document, and those rules of ../shared/LANGUAGE.md that a text can be asked for. */
public final class LanguageTest {
    private static final String[] BANNED = {
        "\\bthrow\\b", "\\bthrows\\b", "\\btry\\b", "\\bcatch\\b", "\\bfinally\\b", "\\bassert\\b",
        "\\bsynchronized\\b", "->", "::", "\\bpackage\\b", "Exact\\(", "_VALUE\\b", "\\bRandom\\b",
        "\\bSystem\\.(?!arraycopy\\()", "\\bThread\\b", "\\bhashCode\\b", "\\btoString\\b", "\\bequals\\b",
        "\" *\\+", "\\+ *\"", "[^\\x00-\\x7f]"};

    public static void main(String[] args) throws Exception {
        String source = Files.readString(Path.of("src/main/java/WallShifts.java"));
        String document = Files.readString(Path.of("../shared/DOC.md"));
        String code = source.replaceAll("(?s)/\\*.*?\\*/", "").replaceAll("//[^\n]*", "");
        face(document);
        classes();
        banned(code);
        newOnlyWhereAnObjectIsMade(code);
        methodsAreShort(code);
        Due.end("LanguageTest");
    }

    private static void face(String document) {
        Set<String> due = new TreeSet<>();
        Matcher m = Pattern.compile("\n    public (int|long) (\\w+)\\((.*?)\\);").matcher(document);
        while (m.find()) {
            StringBuilder types = new StringBuilder();
            for (String one : m.group(3).isEmpty() ? new String[0] : m.group(3).split(", ")) {
                types.append(one.split(" ")[0]).append(' ');
            }
            due.add(m.group(1) + " " + m.group(2) + " " + types);
        }
        Set<String> are = new TreeSet<>();
        for (Method method : WallShifts.class.getDeclaredMethods()) {
            if (Modifier.isPublic(method.getModifiers())) {
                StringBuilder types = new StringBuilder();
                for (Class<?> type : method.getParameterTypes()) {
                    types.append(type.getName()).append(' ');
                }
                are.add(method.getReturnType().getName() + " " + method.getName() + " " + types);
            }
        }
        Due.due("37 calls in the document", due.size(), 37);
        for (String one : due) {
            Due.due("the face has " + one, are.contains(one) ? 1 : 0, 1);
        }
        Due.due("and nothing else", are.size(), due.size());
    }

    private static void classes() {
        Due.due("public and final", WallShifts.class.getModifiers(), Modifier.PUBLIC | Modifier.FINAL);
        for (Constructor<?> one : WallShifts.class.getDeclaredConstructors()) {
            Due.due("constructor " + one, one.getModifiers(), Modifier.PUBLIC);
            Due.due("constructor's arguments", one.getParameterCount(), 0);
        }
        Set<String> names = new TreeSet<>();
        for (Method one : WallShifts.class.getDeclaredMethods()) {
            boolean open = Modifier.isPublic(one.getModifiers());
            Due.due(one + " is public or private", open || Modifier.isPrivate(one.getModifiers()) ? 1 : 0, 1);
            if (open) {
                names.add(one.getName());
            }
        }
        fields(WallShifts.class);
        notNamedLikeTheFace(WallShifts.class, names);
        Class<?>[] inside = WallShifts.class.getDeclaredClasses();
        Due.due("twelve classes at most", inside.length <= 12 ? 1 : 0, 1);
        for (Class<?> one : inside) {
            Due.due(one + " is static", Modifier.isStatic(one.getModifiers()) ? 1 : 0, 1);
            Due.due(one + " isn't public", Modifier.isPublic(one.getModifiers()) ? 1 : 0, 0);
            fields(one);
            notNamedLikeTheFace(one, names);
        }
    }

    private static void fields(Class<?> of) {
        int fields = 0;
        for (Field one : of.getDeclaredFields()) {
            if (Modifier.isStatic(one.getModifiers())) {
                Due.due(one + " is final", Modifier.isFinal(one.getModifiers()) ? 1 : 0, 1);
            } else {
                fields++;
            }
            if (of == WallShifts.class) {
                Due.due(one + " is private", Modifier.isPrivate(one.getModifiers()) ? 1 : 0, 1);
            }
        }
        Due.due(of + " has twenty fields at most", fields <= 20 ? 1 : 0, 1);
    }

    private static void notNamedLikeTheFace(Class<?> of, Set<String> names) {
        for (Method one : of.getDeclaredMethods()) {
            if (!(of == WallShifts.class && Modifier.isPublic(one.getModifiers()))) {
                Due.due(one + " has a name of its own", names.contains(one.getName()) ? 1 : 0, 0);
            }
            Due.due(one + " takes seven at most", one.getParameterCount() <= 7 ? 1 : 0, 1);
        }
    }

    private static void banned(String code) {
        for (String one : BANNED) {
            Matcher m = Pattern.compile(one).matcher(code);
            Due.due("nowhere " + one, m.find() ? 1 : 0, 0);
        }
        Matcher m = Pattern.compile("import ([^;]*);").matcher(code);
        while (m.find()) {
            Due.due("import of " + m.group(1), m.group(1).equals("java.util.Arrays") ? 1 : 0, 1);
        }
    }

    /** A run's objects are counted: all are made with a WallShifts, none by a call. */
    private static void newOnlyWhereAnObjectIsMade(String code) {
        for (String line : code.split("\n")) {
            if (line.matches(".*\\bnew\\b.*")) {
                boolean field = line.matches(" +(private )?final \\S+ \\w+ = new [^;]*;");
                boolean inConstructor = line.strip().equals("sheets[s] = new Sheet();");
                Due.due("new in " + line.strip(), field || inConstructor ? 1 : 0, 1);
            }
        }
    }

    private static void methodsAreShort(String code) {
        Matcher m = Pattern.compile("(?m)^( +)[\\w\\[\\]<> ]+\\([^;{]*\\) \\{\n(?s:.*?)\n\\1\\}").matcher(code);
        int methods = 0;
        while (m.find()) {
            methods++;
            int lines = m.group().split("\n").length;
            Due.due("lines of " + m.group().strip().split("\n")[0], lines <= 60 ? 1 : 0, 1);
        }
        Due.due("methods are found", methods > 37 ? 1 : 0, 1);
    }
}
